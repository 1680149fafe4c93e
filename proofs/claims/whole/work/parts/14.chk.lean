/-! THE CHECK of a method's table against its bytes and the tables' words -/
def ag_len : Instr → Nat
  | .aload _ | .iload _ | .astore _ | .istore _ | .bipush _ | .newarray _ => 2
  | .sipush _ | .getfield _ | .putfield _ | .invokevirtual _ | .invokestatic _ | .invokespecial _ | .goto _ | .ifCond _ _ | .if_icmp _ _ | .ifnull _ | .ifnonnull _ | .new _ | .anewarray _ | .iinc _ _ => 3
  | _ => 1
def gArr : ArrayType → Nat
  | .int => 0
  | .char => 1
  | .boolean => 2
  | _ => 99
/-- the links of System.arraycopy -/
def gAC : List (Nat × Nat) := [(8, 19)]
def ag_chk (y : Nat) (e : ag_I) : Bool :=
  match e with
  | (pc, i, nx, x1, x2, x3) =>
  match i with
  | .tableswitch d lo hi offs => (match decode (gB y) pc with
      | .ok (j, _) => decide (j = i)
      | _ => false) && decide ((pc : Int) + d ≥ 0) && offs.toList.all (fun o => decide ((pc : Int) + o ≥ 0)) && decide (lo + offs.size = hi + 1)
  | i => decide (decode (gB y) pc = .ok (i, ag_len i)) && Nat.beq nx (pc + ag_len i) && (match i with
    | .astore_n n => Nat.blt n.val (gT y).1
    | .istore_n n => Nat.blt n.val (gT y).1
    | .astore n => Nat.blt n (gT y).1
    | .istore n => Nat.blt n (gT y).1
    | .iinc n _ => Nat.blt n (gT y).1
    | .goto off => decide ((pc : Int) + off = (x1 : Int))
    | .ifCond _ off => decide ((pc : Int) + off = (x1 : Int))
    | .if_icmp _ off => decide ((pc : Int) + off = (x1 : Int))
    | .ifnull off => decide ((pc : Int) + off = (x1 : Int))
    | .ifnonnull off => decide ((pc : Int) + off = (x1 : Int))
    | .getfield idx => decide ((gCn y, idx, x1, x2) ∈ gFL) && Nat.blt x1 12 && Nat.blt x2 (gNf x1)
    | .putfield idx => decide ((gCn y, idx, x1, x2) ∈ gFL) && Nat.blt x1 12 && Nat.blt x2 (gNf x1) && (match gTy x1 x2 with
        | .int => Nat.beq x3 0
        | .char => Nat.beq x3 3
        | .boolean => Nat.beq x3 4
        | .object _ => Nat.beq x3 1
        | .array _ => Nat.beq x3 1
        | _ => false) && (!(gTT x1 x2).2.2.2 || (decide ((gN y).name = "<init>") && decide ((gTT x1 x2).1 = gR (gCn y))))
    | .aaload => Nat.ble 103 x1 && Nat.blt x1 109
    | .aastore => Nat.ble 103 x1 && Nat.blt x1 109 && Nat.blt x2 12 && decide (ag_ct (x1 - 100) = .object (gR x2))
    | .arraylength => Nat.ble 100 x1 && Nat.blt x1 109
    | .newarray at9 => Nat.beq x1 (100 + gArr at9) && Nat.blt (gArr at9) 3
    | .anewarray idx => Nat.ble 103 x1 && Nat.blt x1 109 && gCL.any (fun q => Nat.beq q.1 (gCn y) && Nat.beq q.2.1 idx && decide (ag_ct (x1 - 100) = .object (gR q.2.2)) && decide (q.2.2 ∈ gAO))
    | .new idx => match x3 with
      | 9 => gEL.any (fun q => Nat.beq q.1 (gCn y) && Nat.beq q.2.1 idx && Nat.beq q.2.2.2.2 x1 && Nat.ble 6 (gF y) && Nat.ble 82 (gLo y) && decide (decode (gB y) (pc + 3) = .ok (.dup, 1)) &&
          ((decide (decode (gB y) (pc + 4) = .ok (.ldc q.2.2.1, 2)) && decide (decode (gB y) (pc + 6) = .ok (.invokespecial q.2.2.2.1, 3)) && decide (decode (gB y) (pc + 9) = .ok (.athrow, 1))) ||
           (decide (decode (gB y) (pc + 4) = .ok (.ldc_w q.2.2.1, 3)) && decide (decode (gB y) (pc + 7) = .ok (.invokespecial q.2.2.2.1, 3)) && decide (decode (gB y) (pc + 10) = .ok (.athrow, 1)))))
      | _ => decide ((gCn y, idx, x1) ∈ gCL) && Nat.blt x1 12
    | .invokespecial idx => match x3 with
      | 9 => decide ((gCn y, idx) ∈ gOI) && Nat.ble 1 (gF y) && Nat.ble 12 (gLo y)
      | _ => Nat.blt x1 gY && decide ((gN x1).name = "<init>") && decide ((parseMethodDescriptor (gN x1).desc).map (fun d => d.parameters.length) = some x2) && (decide ((gCn y, idx, x1) ∈ gML) || decide ((gCn y, idx, x1) ∈ gMN)) && decide (x1 ∈ gIm) && decide (gCn x1 < 12) && decide (gRt x1 = none) && Nat.ble (gF x1 + 1) (gF y) && Nat.ble (8 + ((gT x1).1 + 11) + gLo x1) (gLo y)
    | .invokevirtual idx => Nat.blt x1 gY && Nat.beq (gCn x1) (x3 / 10) && Nat.blt (x3 / 10) 12 && decide ((parseMethodDescriptor (gN x1).desc).map (fun d => d.parameters.length) = some x2) && decide ((gCn y, idx, x1) ∈ gML) && decide (x1 ∈ gIm) && decide (x1 ∈ gVm) && Nat.ble (gF x1 + 1) (gF y) && Nat.ble (8 + ((gT x1).1 + 11) + gLo x1) (gLo y)
    | .invokestatic idx => match x3 with
      | 99 => decide ((gCn y, idx) ∈ gAC) && Nat.ble 1 (gF y) && Nat.ble 18 (gLo y)
      | _ => Nat.blt x1 gY && decide ((parseMethodDescriptor (gN x1).desc).map (fun d => d.parameters.length) = some x2) && decide ((gCn y, idx, x1) ∈ gML) && decide (x1 ∈ gSm) && Nat.blt (gCn x1) 13 && Nat.ble (gF x1 + 1) (gF y) && Nat.ble (8 + ((gT x1).1 + 11) + gLo x1) (gLo y)
    | .ireturn => match (gT y).2.1 with
      | 1 => decide (gRt y = some .int)
      | 3 => decide (gRt y = some .char)
      | 4 => decide (gRt y = some .boolean)
      | _ => false
    | .areturn => match gRt y with
      | some (.object _) => true
      | some (.array _) => true
      | _ => false
    | .return_ => decide (gRt y = none)
    | _ => true)
def ag_all (y : Nat) : Bool := (gT y).2.2.all (ag_chk y)

/-- NameSpaces$Handles.<init>()V -/
def f0 (call : Nat → List ag_V → ag_H → ag_R)  (l0 : Option Nat) (h : ag_H) : ag_R :=
  ag_nn l0 <|
  ag_na h (ag_lit 3) 100 (.inl 0) fun o1 h2 =>
  ag_pF h2 l0 0 0 (.inr o1) fun h3 =>
  ag_na h3 (ag_lit 3) 100 (.inl 0) fun o4 h5 =>
  ag_pF h5 l0 0 1 (.inr o4) fun h6 =>
  ag_na h6 (ag_lit 3) 102 (.inl 0) fun o7 h8 =>
  ag_pF h8 l0 0 2 (.inr o7) fun h9 =>
  some (.inl none, h9)
set_option maxRecDepth 100000 in
set_option maxHeartbeats 4000000 in
theorem i0 (call : Nat → List ag_V → ag_H → ag_R) (B : ag_K4) (l0 : Option Nat) (h : ag_H) : ag_in 0 call B t0 0 [some (.inr l0)] [] h = f0 call  l0 h := by
  rfl
set_option maxRecDepth 100000 in
set_option maxHeartbeats 4000000 in
theorem r0 (d : Nat) (l0 : Option Nat) (h : ag_H) : ag_run gT (d + 1) 0 [.inr l0] h = f0 (ag_run gT d)  l0 h := by
  show ag_out 0 (ag_run gT d) t0 4000 0 [some (.inr l0)] [] h = _
  rw [ag_out_top, i0]
def f1_27 (call : Nat → List ag_V → ag_H → ag_R) (b27 : Option Nat → Int32 → Int32 → Int32 → Int32 → Int32 → ag_H → ag_R) (l0 : Option Nat) (l1 : Int32) (l2 : Int32) (l3 : Int32) (l4 : Int32) (l5 : Int32) (h : ag_H) : ag_R :=
  if l5 ≤ l1 then
    ag_gR h l0 0 0 fun x1 =>
    ag_xP h x1 100 l1 (.inl l2) fun h2 =>
    ag_gR h2 l0 0 1 fun x3 =>
    ag_xP h2 x3 100 l1 (.inl l3) fun h4 =>
    ag_gR h4 l0 0 2 fun x5 =>
    ag_isB l4 <| ag_xP h4 x5 102 l1 (.inl l4) fun h6 =>
    ag_gI h6 l0 0 3 fun x7 =>
    ag_pF h6 l0 0 3 (.inl (x7 + (ag_lit 1))) fun h8 =>
    some (.inl none, h8)
  else
    ag_gR h l0 0 0 fun x9 =>
    ag_gR h l0 0 0 fun x10 =>
    ag_xI h x10 100 (l5 - (ag_lit 1)) fun x11 =>
    ag_xP h x9 100 l5 (.inl x11) fun h12 =>
    ag_gR h12 l0 0 1 fun x13 =>
    ag_gR h12 l0 0 1 fun x14 =>
    ag_xI h12 x14 100 (l5 - (ag_lit 1)) fun x15 =>
    ag_xP h12 x13 100 l5 (.inl x15) fun h16 =>
    ag_gR h16 l0 0 2 fun x17 =>
    ag_gR h16 l0 0 2 fun x18 =>
    ag_xI h16 x18 102 (l5 - (ag_lit 1)) fun x19 =>
    ag_isB x19 <| ag_xP h16 x17 102 l5 (.inl x19) fun h20 =>
    b27 l0 l1 l2 l3 l4 (l5 + ag_lit (-1)) h20
def f1_20 (call : Nat → List ag_V → ag_H → ag_R) (b27 : Option Nat → Int32 → Int32 → Int32 → Int32 → Int32 → ag_H → ag_R)  (h : ag_H) : ag_R :=
  some (.inl none, h)
/-- NameSpaces$Handles.insert(IIIZ)V -/
def f1 (call : Nat → List ag_V → ag_H → ag_R) (b27 : Option Nat → Int32 → Int32 → Int32 → Int32 → Int32 → ag_H → ag_R) (l0 : Option Nat) (l1 : Int32) (l2 : Int32) (l3 : Int32) (l4 : Int32) (h : ag_H) : ag_R :=
  if l1 < (ag_lit 0) then
    f1_20 call b27 h
  else
    ag_gI h l0 0 3 fun x1 =>
    if x1 < l1 then
      f1_20 call b27 h
    else
      ag_gI h l0 0 3 fun x2 =>
      if x2 < (ag_lit 3) then
        ag_gI h l0 0 3 fun x3 =>
        f1_27 call b27 l0 l1 l2 l3 l4 x3 h
      else
        f1_20 call b27 h
def g1 (call : Nat → List ag_V → ag_H → ag_R) : Nat → Option Nat → Int32 → Int32 → Int32 → Int32 → Int32 → ag_H → ag_R
  | 0 => fun _ _ _ _ _ _ _ => none
  | n + 1 => f1_27 call (g1 call n)
set_option maxRecDepth 100000 in
set_option maxHeartbeats 4000000 in
theorem i1_27 (call : Nat → List ag_V → ag_H → ag_R) (B : ag_K4) (l0 : Option Nat) (l1 : Int32) (l2 : Int32) (l3 : Int32) (l4 : Int32) (l5 : Int32) (h : ag_H) : ag_in 0 call B t1 27 [some (.inr l0), some (.inl l1), some (.inl l2), some (.inl l3), some (.inl l4), some (.inl l5)] [] h = f1_27 call (fun (l0 : Option Nat) (l1 : Int32) (l2 : Int32) (l3 : Int32) (l4 : Int32) (l5 : Int32) (h : ag_H) => B 27 [some (.inr l0), some (.inl l1), some (.inl l2), some (.inl l3), some (.inl l4), some (.inl l5)] [] h) l0 l1 l2 l3 l4 l5 h := by
  rfl
set_option maxRecDepth 100000 in
set_option maxHeartbeats 4000000 in
theorem i1 (call : Nat → List ag_V → ag_H → ag_R) (B : ag_K4) (l0 : Option Nat) (l1 : Int32) (l2 : Int32) (l3 : Int32) (l4 : Int32) (h : ag_H) : ag_in 0 call B t1 0 [some (.inr l0), some (.inl l1), some (.inl l2), some (.inl l3), some (.inl l4), none] [] h = f1 call (fun (l0 : Option Nat) (l1 : Int32) (l2 : Int32) (l3 : Int32) (l4 : Int32) (l5 : Int32) (h : ag_H) => B 27 [some (.inr l0), some (.inl l1), some (.inl l2), some (.inl l3), some (.inl l4), some (.inl l5)] [] h) l0 l1 l2 l3 l4 h := by
  rfl
set_option maxRecDepth 100000 in
set_option maxHeartbeats 4000000 in
theorem o1 (call : Nat → List ag_V → ag_H → ag_R) : ∀ n : Nat, (fun (l0 : Option Nat) (l1 : Int32) (l2 : Int32) (l3 : Int32) (l4 : Int32) (l5 : Int32) (h : ag_H) => (ag_out 0 call t1 n) 27 [some (.inr l0), some (.inl l1), some (.inl l2), some (.inl l3), some (.inl l4), some (.inl l5)] [] h) = g1 call n := by
  intro n
  induction n with
  | zero => rfl
  | succ n ih =>
    funext l0 l1 l2 l3 l4 l5 h
    show ag_in 0 call (ag_out 0 call t1 n) t1 27 [some (.inr l0), some (.inl l1), some (.inl l2), some (.inl l3), some (.inl l4), some (.inl l5)] [] h = f1_27 call (g1 call n) l0 l1 l2 l3 l4 l5 h
    rw [i1_27, ih]
set_option maxRecDepth 100000 in
set_option maxHeartbeats 4000000 in
theorem r1 (d : Nat) (l0 : Option Nat) (l1 : Int32) (l2 : Int32) (l3 : Int32) (l4 : Int32) (h : ag_H) : ag_run gT (d + 1) 1 [.inr l0, .inl l1, .inl l2, .inl l3, .inl l4] h = f1 (ag_run gT d) (g1 (ag_run gT d) 3999) l0 l1 l2 l3 l4 h := by
  show ag_out 0 (ag_run gT d) t1 4000 0 [some (.inr l0), some (.inl l1), some (.inl l2), some (.inl l3), some (.inl l4), none] [] h = _
  rw [ag_out_top, i1, o1]
def f2_15 (call : Nat → List ag_V → ag_H → ag_R) (b15 : Option Nat → Int32 → ag_H → ag_R) (l0 : Option Nat) (l2 : Int32) (h : ag_H) : ag_R :=
  ag_gI h l0 0 3 fun x1 =>
  if x1 ≤ (l2 + (ag_lit 1)) then
    ag_gI h l0 0 3 fun x2 =>
    ag_pF h l0 0 3 (.inl (x2 - (ag_lit 1))) fun h3 =>
    some (.inl none, h3)
  else
    ag_gR h l0 0 0 fun x4 =>
    ag_gR h l0 0 0 fun x5 =>
    ag_xI h x5 100 (l2 + (ag_lit 1)) fun x6 =>
    ag_xP h x4 100 l2 (.inl x6) fun h7 =>
    ag_gR h7 l0 0 1 fun x8 =>
    ag_gR h7 l0 0 1 fun x9 =>
    ag_xI h7 x9 100 (l2 + (ag_lit 1)) fun x10 =>
    ag_xP h7 x8 100 l2 (.inl x10) fun h11 =>
    ag_gR h11 l0 0 2 fun x12 =>
    ag_gR h11 l0 0 2 fun x13 =>
    ag_xI h11 x13 102 (l2 + (ag_lit 1)) fun x14 =>
    ag_isB x14 <| ag_xP h11 x12 102 l2 (.inl x14) fun h15 =>
    b15 l0 (l2 + ag_lit 1) h15
def f2_12 (call : Nat → List ag_V → ag_H → ag_R) (b15 : Option Nat → Int32 → ag_H → ag_R)  (h : ag_H) : ag_R :=
  some (.inl none, h)
/-- NameSpaces$Handles.delete(I)V -/
def f2 (call : Nat → List ag_V → ag_H → ag_R) (b15 : Option Nat → Int32 → ag_H → ag_R) (l0 : Option Nat) (l1 : Int32) (h : ag_H) : ag_R :=
  if l1 < (ag_lit 0) then
    f2_12 call b15 h
  else
    ag_gI h l0 0 3 fun x1 =>
    if l1 < x1 then
      f2_15 call b15 l0 l1 h
    else
      f2_12 call b15 h
def g2 (call : Nat → List ag_V → ag_H → ag_R) : Nat → Option Nat → Int32 → ag_H → ag_R
  | 0 => fun _ _ _ => none
  | n + 1 => f2_15 call (g2 call n)
set_option maxRecDepth 100000 in
set_option maxHeartbeats 4000000 in
theorem i2_15 (call : Nat → List ag_V → ag_H → ag_R) (B : ag_K4) (l0 : Option Nat) (l2 : Int32) (h : ag_H) : ag_in 0 call B t2 15 [some (.inr l0), none, some (.inl l2)] [] h = f2_15 call (fun (l0 : Option Nat) (l2 : Int32) (h : ag_H) => B 15 [some (.inr l0), none, some (.inl l2)] [] h) l0 l2 h := by
  rfl
set_option maxRecDepth 100000 in
set_option maxHeartbeats 4000000 in
theorem i2 (call : Nat → List ag_V → ag_H → ag_R) (B : ag_K4) (l0 : Option Nat) (l1 : Int32) (h : ag_H) : ag_in 0 call B t2 0 [some (.inr l0), some (.inl l1), none] [] h = f2 call (fun (l0 : Option Nat) (l2 : Int32) (h : ag_H) => B 15 [some (.inr l0), none, some (.inl l2)] [] h) l0 l1 h := by
  rfl
set_option maxRecDepth 100000 in
set_option maxHeartbeats 4000000 in
theorem o2 (call : Nat → List ag_V → ag_H → ag_R) : ∀ n : Nat, (fun (l0 : Option Nat) (l2 : Int32) (h : ag_H) => (ag_out 0 call t2 n) 15 [some (.inr l0), none, some (.inl l2)] [] h) = g2 call n := by
  intro n
  induction n with
  | zero => rfl
  | succ n ih =>
    funext l0 l2 h
    show ag_in 0 call (ag_out 0 call t2 n) t2 15 [some (.inr l0), none, some (.inl l2)] [] h = f2_15 call (g2 call n) l0 l2 h
    rw [i2_15, ih]
set_option maxRecDepth 100000 in
set_option maxHeartbeats 4000000 in
theorem r2 (d : Nat) (l0 : Option Nat) (l1 : Int32) (h : ag_H) : ag_run gT (d + 1) 2 [.inr l0, .inl l1] h = f2 (ag_run gT d) (g2 (ag_run gT d) 3999) l0 l1 h := by
  show ag_out 0 (ag_run gT d) t2 4000 0 [some (.inr l0), some (.inl l1), none] [] h = _
  rw [ag_out_top, i2, o2]
def f3_22 (call : Nat → List ag_V → ag_H → ag_R)  (s0 : Int32) (h : ag_H) : ag_R :=
  some (.inl (some (.inl s0)), h)
def f3_21 (call : Nat → List ag_V → ag_H → ag_R)   (h : ag_H) : ag_R :=
  f3_22 call (ag_lit (-1)) h
/-- NameSpaces$Handles.serverAt(I)I -/
def f3 (call : Nat → List ag_V → ag_H → ag_R)  (l0 : Option Nat) (l1 : Int32) (h : ag_H) : ag_R :=
  if l1 < (ag_lit 0) then
    f3_21 call h
  else
    ag_gI h l0 0 3 fun x1 =>
    if x1 ≤ l1 then
      f3_21 call h
    else
      ag_gR h l0 0 0 fun x2 =>
      ag_xI h x2 100 l1 fun x3 =>
      f3_22 call x3 h
set_option maxRecDepth 100000 in
set_option maxHeartbeats 4000000 in
theorem i3 (call : Nat → List ag_V → ag_H → ag_R) (B : ag_K4) (l0 : Option Nat) (l1 : Int32) (h : ag_H) : ag_in 1 call B t3 0 [some (.inr l0), some (.inl l1)] [] h = f3 call  l0 l1 h := by
  rfl
set_option maxRecDepth 100000 in
set_option maxHeartbeats 4000000 in
theorem r3 (d : Nat) (l0 : Option Nat) (l1 : Int32) (h : ag_H) : ag_run gT (d + 1) 3 [.inr l0, .inl l1] h = f3 (ag_run gT d)  l0 l1 h := by
  show ag_out 1 (ag_run gT d) t3 4000 0 [some (.inr l0), some (.inl l1)] [] h = _
  rw [ag_out_top, i3]
def f4_22 (call : Nat → List ag_V → ag_H → ag_R)  (s0 : Int32) (h : ag_H) : ag_R :=
  some (.inl (some (.inl s0)), h)
def f4_21 (call : Nat → List ag_V → ag_H → ag_R)   (h : ag_H) : ag_R :=
  f4_22 call (ag_lit (-1)) h
/-- NameSpaces$Handles.handleAt(I)I -/
def f4 (call : Nat → List ag_V → ag_H → ag_R)  (l0 : Option Nat) (l1 : Int32) (h : ag_H) : ag_R :=
  if l1 < (ag_lit 0) then
    f4_21 call h
  else
    ag_gI h l0 0 3 fun x1 =>
    if x1 ≤ l1 then
      f4_21 call h
    else
      ag_gR h l0 0 1 fun x2 =>
      ag_xI h x2 100 l1 fun x3 =>
      f4_22 call x3 h
set_option maxRecDepth 100000 in
set_option maxHeartbeats 4000000 in
theorem i4 (call : Nat → List ag_V → ag_H → ag_R) (B : ag_K4) (l0 : Option Nat) (l1 : Int32) (h : ag_H) : ag_in 1 call B t4 0 [some (.inr l0), some (.inl l1)] [] h = f4 call  l0 l1 h := by
  rfl
set_option maxRecDepth 100000 in
set_option maxHeartbeats 4000000 in
theorem r4 (d : Nat) (l0 : Option Nat) (l1 : Int32) (h : ag_H) : ag_run gT (d + 1) 4 [.inr l0, .inl l1] h = f4 (ag_run gT d)  l0 l1 h := by
  show ag_out 1 (ag_run gT d) t4 4000 0 [some (.inr l0), some (.inl l1)] [] h = _
  rw [ag_out_top, i4]
def f5_26 (call : Nat → List ag_V → ag_H → ag_R)  (s0 : Int32) (h : ag_H) : ag_R :=
  ag_isB s0 (some (.inl (some (.inl s0)), h))
def f5_25 (call : Nat → List ag_V → ag_H → ag_R)   (h : ag_H) : ag_R :=
  f5_26 call (ag_lit 0) h
/-- NameSpaces$Handles.mayMake(I)Z -/
def f5 (call : Nat → List ag_V → ag_H → ag_R)  (l0 : Option Nat) (l1 : Int32) (h : ag_H) : ag_R :=
  if l1 < (ag_lit 0) then
    f5_25 call h
  else
    ag_gI h l0 0 3 fun x1 =>
    if x1 ≤ l1 then
      f5_25 call h
    else
      ag_gR h l0 0 2 fun x2 =>
      ag_xI h x2 102 l1 fun x3 =>
      if x3 = (ag_lit 0) then
        f5_25 call h
      else
        f5_26 call (ag_lit 1) h
set_option maxRecDepth 100000 in
set_option maxHeartbeats 4000000 in
theorem i5 (call : Nat → List ag_V → ag_H → ag_R) (B : ag_K4) (l0 : Option Nat) (l1 : Int32) (h : ag_H) : ag_in 4 call B t5 0 [some (.inr l0), some (.inl l1)] [] h = f5 call  l0 l1 h := by
  rfl
set_option maxRecDepth 100000 in
set_option maxHeartbeats 4000000 in
theorem r5 (d : Nat) (l0 : Option Nat) (l1 : Int32) (h : ag_H) : ag_run gT (d + 1) 5 [.inr l0, .inl l1] h = f5 (ag_run gT d)  l0 l1 h := by
  show ag_out 4 (ag_run gT d) t5 4000 0 [some (.inr l0), some (.inl l1)] [] h = _
  rw [ag_out_top, i5]
def f6_2 (call : Nat → List ag_V → ag_H → ag_R) (b2 : Option Nat → Int32 → ag_H → ag_R) (l0 : Option Nat) (l1 : Int32) (h : ag_H) : ag_R :=
  ag_gI h l0 0 3 fun x1 =>
  if x1 ≤ l1 then
    some (.inl (some (.inl (ag_lit (-1)))), h)
  else
    ag_gR h l0 0 2 fun x2 =>
    ag_xI h x2 102 l1 fun x3 =>
    if x3 = (ag_lit 0) then
      b2 l0 (l1 + ag_lit 1) h
    else
      some (.inl (some (.inl l1)), h)
/-- NameSpaces$Handles.firstMaker()I -/
def f6 (call : Nat → List ag_V → ag_H → ag_R) (b2 : Option Nat → Int32 → ag_H → ag_R) (l0 : Option Nat) (h : ag_H) : ag_R :=
  f6_2 call b2 l0 (ag_lit 0) h
def g6 (call : Nat → List ag_V → ag_H → ag_R) : Nat → Option Nat → Int32 → ag_H → ag_R
  | 0 => fun _ _ _ => none
  | n + 1 => f6_2 call (g6 call n)
set_option maxRecDepth 100000 in
set_option maxHeartbeats 4000000 in
theorem i6_2 (call : Nat → List ag_V → ag_H → ag_R) (B : ag_K4) (l0 : Option Nat) (l1 : Int32) (h : ag_H) : ag_in 1 call B t6 2 [some (.inr l0), some (.inl l1)] [] h = f6_2 call (fun (l0 : Option Nat) (l1 : Int32) (h : ag_H) => B 2 [some (.inr l0), some (.inl l1)] [] h) l0 l1 h := by
  rfl
set_option maxRecDepth 100000 in
set_option maxHeartbeats 4000000 in
theorem i6 (call : Nat → List ag_V → ag_H → ag_R) (B : ag_K4) (l0 : Option Nat) (h : ag_H) : ag_in 1 call B t6 0 [some (.inr l0), none] [] h = f6 call (fun (l0 : Option Nat) (l1 : Int32) (h : ag_H) => B 2 [some (.inr l0), some (.inl l1)] [] h) l0 h := by
  rfl
set_option maxRecDepth 100000 in
set_option maxHeartbeats 4000000 in
theorem o6 (call : Nat → List ag_V → ag_H → ag_R) : ∀ n : Nat, (fun (l0 : Option Nat) (l1 : Int32) (h : ag_H) => (ag_out 1 call t6 n) 2 [some (.inr l0), some (.inl l1)] [] h) = g6 call n := by
  intro n
  induction n with
  | zero => rfl
  | succ n ih =>
    funext l0 l1 h
    show ag_in 1 call (ag_out 1 call t6 n) t6 2 [some (.inr l0), some (.inl l1)] [] h = f6_2 call (g6 call n) l0 l1 h
    rw [i6_2, ih]
set_option maxRecDepth 100000 in
set_option maxHeartbeats 4000000 in
theorem r6 (d : Nat) (l0 : Option Nat) (h : ag_H) : ag_run gT (d + 1) 6 [.inr l0] h = f6 (ag_run gT d) (g6 (ag_run gT d) 3999) l0 h := by
  show ag_out 1 (ag_run gT d) t6 4000 0 [some (.inr l0), none] [] h = _
  rw [ag_out_top, i6, o6]
/-- NameSpaces$Message.<init>()V -/
def f7 (call : Nat → List ag_V → ag_H → ag_R)  (l0 : Option Nat) (h : ag_H) : ag_R :=
  ag_nn l0 <|
  ag_na h (ag_lit8 20) 100 (.inl 0) fun o1 h2 =>
  ag_pF h2 l0 1 0 (.inr o1) fun h3 =>
  some (.inl none, h3)
set_option maxRecDepth 100000 in
set_option maxHeartbeats 4000000 in
theorem i7 (call : Nat → List ag_V → ag_H → ag_R) (B : ag_K4) (l0 : Option Nat) (h : ag_H) : ag_in 0 call B t7 0 [some (.inr l0)] [] h = f7 call  l0 h := by
  rfl
set_option maxRecDepth 100000 in
set_option maxHeartbeats 4000000 in
theorem r7 (d : Nat) (l0 : Option Nat) (h : ag_H) : ag_run gT (d + 1) 7 [.inr l0] h = f7 (ag_run gT d)  l0 h := by
  show ag_out 0 (ag_run gT d) t7 4000 0 [some (.inr l0)] [] h = _
  rw [ag_out_top, i7]
/-- NameSpaces$Message.begin(I)V -/
def f8 (call : Nat → List ag_V → ag_H → ag_R)  (l0 : Option Nat) (l1 : Int32) (h : ag_H) : ag_R :=
  ag_gI h l0 1 2 fun x1 =>
  ag_pF h l0 1 2 (.inl (x1 + (ag_lit 1))) fun h2 =>
  ag_pF h2 l0 1 1 (.inl (ag_lit8 7)) fun h3 =>
  ag_gR h3 l0 1 0 fun x4 =>
  ag_xP h3 x4 100 (ag_lit 0) (.inl (ag_lit8 7)) fun h5 =>
  ag_gR h5 l0 1 0 fun x6 =>
  ag_xP h5 x6 100 (ag_lit 4) (.inl l1) fun h7 =>
  ag_gR h7 l0 1 0 fun x8 =>
  ag_xP h7 x8 100 (ag_lit 5) (.inl (ag_lit 1)) fun h9 =>
  some (.inl none, h9)
set_option maxRecDepth 100000 in
set_option maxHeartbeats 4000000 in
theorem i8 (call : Nat → List ag_V → ag_H → ag_R) (B : ag_K4) (l0 : Option Nat) (l1 : Int32) (h : ag_H) : ag_in 0 call B t8 0 [some (.inr l0), some (.inl l1)] [] h = f8 call  l0 l1 h := by
  rfl
set_option maxRecDepth 100000 in
set_option maxHeartbeats 4000000 in
theorem r8 (d : Nat) (l0 : Option Nat) (l1 : Int32) (h : ag_H) : ag_run gT (d + 1) 8 [.inr l0, .inl l1] h = f8 (ag_run gT d)  l0 l1 h := by
  show ag_out 0 (ag_run gT d) t8 4000 0 [some (.inr l0), some (.inl l1)] [] h = _
  rw [ag_out_top, i8]
def f9_51 (call : Nat → List ag_V → ag_H → ag_R) (b2 : Option Nat → Int32 → Int32 → Int32 → ag_H → ag_R) (l0 : Option Nat) (h : ag_H) : ag_R :=
  ag_gR h l0 1 0 fun x1 =>
  ag_gI h l0 1 1 fun x2 =>
  ag_xP h x1 100 (ag_lit 0) (.inl x2) fun h3 =>
  some (.inl none, h3)
def f9_2 (call : Nat → List ag_V → ag_H → ag_R) (b2 : Option Nat → Int32 → Int32 → Int32 → ag_H → ag_R) (l0 : Option Nat) (l1 : Int32) (l2 : Int32) (l3 : Int32) (h : ag_H) : ag_R :=
  if l2 ≤ l3 then
    f9_51 call b2 l0 h
  else
    ag_gI h l0 1 1 fun x1 =>
    if (ag_lit8 20) ≤ x1 then
      f9_51 call b2 l0 h
    else
      ag_gR h l0 1 0 fun x2 =>
      ag_gI h l0 1 1 fun x3 =>
      ag_xP h x2 100 x3 (.inl (((l1.toUInt32 >>> (((ag_lit8 8) * l3).toUInt32 &&& Int32.toUInt32 31)).toInt32) &&& (ag_lit16 255))) fun h4 =>
      ag_gI h4 l0 1 1 fun x5 =>
      ag_pF h4 l0 1 1 (.inl (x5 + (ag_lit 1))) fun h6 =>
      b2 l0 l1 l2 (l3 + ag_lit 1) h6
/-- NameSpaces$Message.put(II)V -/
def f9 (call : Nat → List ag_V → ag_H → ag_R) (b2 : Option Nat → Int32 → Int32 → Int32 → ag_H → ag_R) (l0 : Option Nat) (l1 : Int32) (l2 : Int32) (h : ag_H) : ag_R :=
  f9_2 call b2 l0 l1 l2 (ag_lit 0) h
def g9 (call : Nat → List ag_V → ag_H → ag_R) : Nat → Option Nat → Int32 → Int32 → Int32 → ag_H → ag_R
  | 0 => fun _ _ _ _ _ => none
  | n + 1 => f9_2 call (g9 call n)
set_option maxRecDepth 100000 in
set_option maxHeartbeats 4000000 in
theorem i9_2 (call : Nat → List ag_V → ag_H → ag_R) (B : ag_K4) (l0 : Option Nat) (l1 : Int32) (l2 : Int32) (l3 : Int32) (h : ag_H) : ag_in 0 call B t9 2 [some (.inr l0), some (.inl l1), some (.inl l2), some (.inl l3)] [] h = f9_2 call (fun (l0 : Option Nat) (l1 : Int32) (l2 : Int32) (l3 : Int32) (h : ag_H) => B 2 [some (.inr l0), some (.inl l1), some (.inl l2), some (.inl l3)] [] h) l0 l1 l2 l3 h := by
  rfl
set_option maxRecDepth 100000 in
set_option maxHeartbeats 4000000 in
theorem i9 (call : Nat → List ag_V → ag_H → ag_R) (B : ag_K4) (l0 : Option Nat) (l1 : Int32) (l2 : Int32) (h : ag_H) : ag_in 0 call B t9 0 [some (.inr l0), some (.inl l1), some (.inl l2), none] [] h = f9 call (fun (l0 : Option Nat) (l1 : Int32) (l2 : Int32) (l3 : Int32) (h : ag_H) => B 2 [some (.inr l0), some (.inl l1), some (.inl l2), some (.inl l3)] [] h) l0 l1 l2 h := by
  rfl
set_option maxRecDepth 100000 in
set_option maxHeartbeats 4000000 in
theorem o9 (call : Nat → List ag_V → ag_H → ag_R) : ∀ n : Nat, (fun (l0 : Option Nat) (l1 : Int32) (l2 : Int32) (l3 : Int32) (h : ag_H) => (ag_out 0 call t9 n) 2 [some (.inr l0), some (.inl l1), some (.inl l2), some (.inl l3)] [] h) = g9 call n := by
  intro n
  induction n with
  | zero => rfl
  | succ n ih =>
    funext l0 l1 l2 l3 h
    show ag_in 0 call (ag_out 0 call t9 n) t9 2 [some (.inr l0), some (.inl l1), some (.inl l2), some (.inl l3)] [] h = f9_2 call (g9 call n) l0 l1 l2 l3 h
    rw [i9_2, ih]
set_option maxRecDepth 100000 in
set_option maxHeartbeats 4000000 in
theorem r9 (d : Nat) (l0 : Option Nat) (l1 : Int32) (l2 : Int32) (h : ag_H) : ag_run gT (d + 1) 9 [.inr l0, .inl l1, .inl l2] h = f9 (ag_run gT d) (g9 (ag_run gT d) 3999) l0 l1 l2 h := by
  show ag_out 0 (ag_run gT d) t9 4000 0 [some (.inr l0), some (.inl l1), some (.inl l2), none] [] h = _
  rw [ag_out_top, i9, o9]
def f10_28 (call : Nat → List ag_V → ag_H → ag_R)  (s0 : Int32) (h : ag_H) : ag_R :=
  some (.inl (some (.inl s0)), h)
def f10_27 (call : Nat → List ag_V → ag_H → ag_R)   (h : ag_H) : ag_R :=
  f10_28 call (ag_lit (-1)) h
/-- NameSpaces$Message.byteAt(I)I -/
def f10 (call : Nat → List ag_V → ag_H → ag_R)  (l0 : Option Nat) (l1 : Int32) (h : ag_H) : ag_R :=
  if l1 < (ag_lit 0) then
    f10_27 call h
  else
    ag_gI h l0 1 1 fun x1 =>
    if x1 ≤ l1 then
      f10_27 call h
    else
      if (ag_lit8 20) ≤ l1 then
        f10_27 call h
      else
        ag_gR h l0 1 0 fun x2 =>
        ag_xI h x2 100 l1 fun x3 =>
        f10_28 call x3 h
set_option maxRecDepth 100000 in
set_option maxHeartbeats 4000000 in
theorem i10 (call : Nat → List ag_V → ag_H → ag_R) (B : ag_K4) (l0 : Option Nat) (l1 : Int32) (h : ag_H) : ag_in 1 call B t10 0 [some (.inr l0), some (.inl l1)] [] h = f10 call  l0 l1 h := by
  rfl
set_option maxRecDepth 100000 in
set_option maxHeartbeats 4000000 in
theorem r10 (d : Nat) (l0 : Option Nat) (l1 : Int32) (h : ag_H) : ag_run gT (d + 1) 10 [.inr l0, .inl l1] h = f10 (ag_run gT d)  l0 l1 h := by
  show ag_out 1 (ag_run gT d) t10 4000 0 [some (.inr l0), some (.inl l1)] [] h = _
  rw [ag_out_top, i10]
def f11_17 (call : Nat → List ag_V → ag_H → ag_R)  (s0 : Int32) (h : ag_H) : ag_R :=
  some (.inl (some (.inl s0)), h)
/-- NameSpaces$Message.byteOrLength(I)I -/
def f11 (call : Nat → List ag_V → ag_H → ag_R)  (l0 : Option Nat) (l1 : Int32) (h : ag_H) : ag_R :=
  if l1 = (ag_lit (-1)) then
    ag_gI h l0 1 1 fun x4 =>
    f11_17 call x4 h
  else
    ag_at h l0 1 fun a1 _ => ag_bI (call 10 [.inr (some a1), .inl l1] h) fun x3 h2 =>
    f11_17 call x3 h2
set_option maxRecDepth 100000 in
set_option maxHeartbeats 4000000 in
theorem i11 (call : Nat → List ag_V → ag_H → ag_R) (B : ag_K4) (l0 : Option Nat) (l1 : Int32) (h : ag_H) : ag_in 1 call B t11 0 [some (.inr l0), some (.inl l1)] [] h = f11 call  l0 l1 h := by
  rfl
set_option maxRecDepth 100000 in
set_option maxHeartbeats 4000000 in
theorem r11 (d : Nat) (l0 : Option Nat) (l1 : Int32) (h : ag_H) : ag_run gT (d + 1) 11 [.inr l0, .inl l1] h = f11 (ag_run gT d)  l0 l1 h := by
  show ag_out 1 (ag_run gT d) t11 4000 0 [some (.inr l0), some (.inl l1)] [] h = _
  rw [ag_out_top, i11]
def f12_4 (call : Nat → List ag_V → ag_H → ag_R) (b4 : Option Nat → Int32 → Int32 → Int32 → ag_H → ag_R) (l0 : Option Nat) (l1 : Int32) (l2 : Int32) (l3 : Int32) (h : ag_H) : ag_R :=
  if l3 < (ag_lit 0) then
    some (.inl (some (.inl l2)), h)
  else
    ag_at h l0 1 fun a1 _ => ag_bI (call 10 [.inr (some a1), .inl (l1 + l3)] h) fun x3 h2 =>
    b4 l0 l1 ((l2 <<< ((ag_lit8 8) &&& 31)) ||| (x3 &&& (ag_lit16 255))) (l3 + ag_lit (-1)) h2
/-- NameSpaces$Message.number(I)I -/
def f12 (call : Nat → List ag_V → ag_H → ag_R) (b4 : Option Nat → Int32 → Int32 → Int32 → ag_H → ag_R) (l0 : Option Nat) (l1 : Int32) (h : ag_H) : ag_R :=
  f12_4 call b4 l0 l1 (ag_lit 0) (ag_lit 3) h
def g12 (call : Nat → List ag_V → ag_H → ag_R) : Nat → Option Nat → Int32 → Int32 → Int32 → ag_H → ag_R
  | 0 => fun _ _ _ _ _ => none
  | n + 1 => f12_4 call (g12 call n)
set_option maxRecDepth 100000 in
set_option maxHeartbeats 4000000 in
theorem i12_4 (call : Nat → List ag_V → ag_H → ag_R) (B : ag_K4) (l0 : Option Nat) (l1 : Int32) (l2 : Int32) (l3 : Int32) (h : ag_H) : ag_in 1 call B t12 4 [some (.inr l0), some (.inl l1), some (.inl l2), some (.inl l3)] [] h = f12_4 call (fun (l0 : Option Nat) (l1 : Int32) (l2 : Int32) (l3 : Int32) (h : ag_H) => B 4 [some (.inr l0), some (.inl l1), some (.inl l2), some (.inl l3)] [] h) l0 l1 l2 l3 h := by
  rfl
set_option maxRecDepth 100000 in
set_option maxHeartbeats 4000000 in
theorem i12 (call : Nat → List ag_V → ag_H → ag_R) (B : ag_K4) (l0 : Option Nat) (l1 : Int32) (h : ag_H) : ag_in 1 call B t12 0 [some (.inr l0), some (.inl l1), none, none] [] h = f12 call (fun (l0 : Option Nat) (l1 : Int32) (l2 : Int32) (l3 : Int32) (h : ag_H) => B 4 [some (.inr l0), some (.inl l1), some (.inl l2), some (.inl l3)] [] h) l0 l1 h := by
  rfl
set_option maxRecDepth 100000 in
set_option maxHeartbeats 4000000 in
theorem o12 (call : Nat → List ag_V → ag_H → ag_R) : ∀ n : Nat, (fun (l0 : Option Nat) (l1 : Int32) (l2 : Int32) (l3 : Int32) (h : ag_H) => (ag_out 1 call t12 n) 4 [some (.inr l0), some (.inl l1), some (.inl l2), some (.inl l3)] [] h) = g12 call n := by
  intro n
  induction n with
  | zero => rfl
  | succ n ih =>
    funext l0 l1 l2 l3 h
    show ag_in 1 call (ag_out 1 call t12 n) t12 4 [some (.inr l0), some (.inl l1), some (.inl l2), some (.inl l3)] [] h = f12_4 call (g12 call n) l0 l1 l2 l3 h
    rw [i12_4, ih]
set_option maxRecDepth 100000 in
set_option maxHeartbeats 4000000 in
theorem r12 (d : Nat) (l0 : Option Nat) (l1 : Int32) (h : ag_H) : ag_run gT (d + 1) 12 [.inr l0, .inl l1] h = f12 (ag_run gT d) (g12 (ag_run gT d) 3999) l0 l1 h := by
  show ag_out 1 (ag_run gT d) t12 4000 0 [some (.inr l0), some (.inl l1), none, none] [] h = _
  rw [ag_out_top, i12, o12]
def f13_14 (call : Nat → List ag_V → ag_H → ag_R) (b14 : Option Nat → Int32 → ag_H → ag_R) (l0 : Option Nat) (l1 : Int32) (h : ag_H) : ag_R :=
  if (ag_lit 4) ≤ l1 then
    some (.inl none, h)
  else
    ag_gR h l0 2 0 fun x1 =>
    ag_nw h 5 fun o2 h3 =>
    ag_nn o2 <| ag_bW (call 28 [.inr o2] h3) fun h4 =>
    ag_oK h4 o2 5 <| ag_xP h4 x1 107 l1 (.inr o2) fun h5 =>
    b14 l0 (l1 + ag_lit 1) h5
/-- NameSpaces$NameSpace.<init>()V -/
def f13 (call : Nat → List ag_V → ag_H → ag_R) (b14 : Option Nat → Int32 → ag_H → ag_R) (l0 : Option Nat) (h : ag_H) : ag_R :=
  ag_nn l0 <|
  ag_na h (ag_lit 4) 107 (.inr none) fun o1 h2 =>
  ag_pF h2 l0 2 0 (.inr o1) fun h3 =>
  f13_14 call b14 l0 (ag_lit 0) h3
def g13 (call : Nat → List ag_V → ag_H → ag_R) : Nat → Option Nat → Int32 → ag_H → ag_R
  | 0 => fun _ _ _ => none
  | n + 1 => f13_14 call (g13 call n)
set_option maxRecDepth 100000 in
set_option maxHeartbeats 4000000 in
theorem i13_14 (call : Nat → List ag_V → ag_H → ag_R) (B : ag_K4) (l0 : Option Nat) (l1 : Int32) (h : ag_H) : ag_in 0 call B t13 14 [some (.inr l0), some (.inl l1)] [] h = f13_14 call (fun (l0 : Option Nat) (l1 : Int32) (h : ag_H) => B 14 [some (.inr l0), some (.inl l1)] [] h) l0 l1 h := by
  rfl
set_option maxRecDepth 100000 in
set_option maxHeartbeats 4000000 in
theorem i13 (call : Nat → List ag_V → ag_H → ag_R) (B : ag_K4) (l0 : Option Nat) (h : ag_H) : ag_in 0 call B t13 0 [some (.inr l0), none] [] h = f13 call (fun (l0 : Option Nat) (l1 : Int32) (h : ag_H) => B 14 [some (.inr l0), some (.inl l1)] [] h) l0 h := by
  rfl
set_option maxRecDepth 100000 in
set_option maxHeartbeats 4000000 in
theorem o13 (call : Nat → List ag_V → ag_H → ag_R) : ∀ n : Nat, (fun (l0 : Option Nat) (l1 : Int32) (h : ag_H) => (ag_out 0 call t13 n) 14 [some (.inr l0), some (.inl l1)] [] h) = g13 call n := by
  intro n
  induction n with
  | zero => rfl
  | succ n ih =>
    funext l0 l1 h
    show ag_in 0 call (ag_out 0 call t13 n) t13 14 [some (.inr l0), some (.inl l1)] [] h = f13_14 call (g13 call n) l0 l1 h
    rw [i13_14, ih]
set_option maxRecDepth 100000 in
set_option maxHeartbeats 4000000 in
theorem r13 (d : Nat) (l0 : Option Nat) (h : ag_H) : ag_run gT (d + 1) 13 [.inr l0] h = f13 (ag_run gT d) (g13 (ag_run gT d) 3999) l0 h := by
  show ag_out 0 (ag_run gT d) t13 4000 0 [some (.inr l0), none] [] h = _
  rw [ag_out_top, i13, o13]
def f14_38 (call : Nat → List ag_V → ag_H → ag_R) (b2 : Option Nat → Int32 → Int32 → Int32 → ag_H → ag_R) (l0 : Option Nat) (l1 : Int32) (l2 : Int32) (l3 : Int32) (h : ag_H) : ag_R :=
  b2 l0 l1 l2 (l3 + ag_lit 1) h
def f14_2 (call : Nat → List ag_V → ag_H → ag_R) (b2 : Option Nat → Int32 → Int32 → Int32 → ag_H → ag_R) (l0 : Option Nat) (l1 : Int32) (l2 : Int32) (l3 : Int32) (h : ag_H) : ag_R :=
  ag_gI h l0 2 1 fun x1 =>
  if x1 ≤ l3 then
    some (.inl (some (.inl (ag_lit (-1)))), h)
  else
    ag_gR h l0 2 0 fun x2 =>
    ag_xR h x2 107 l3 fun x3 =>
    ag_gI h x3 5 1 fun x4 =>
    if x4 = l1 then
      ag_gR h l0 2 0 fun x5 =>
      ag_xR h x5 107 l3 fun x6 =>
      ag_gI h x6 5 2 fun x7 =>
      if x7 = l2 then
        some (.inl (some (.inl l3)), h)
      else
        f14_38 call b2 l0 l1 l2 l3 h
    else
      f14_38 call b2 l0 l1 l2 l3 h
/-- NameSpaces$NameSpace.indexOf(II)I -/
def f14 (call : Nat → List ag_V → ag_H → ag_R) (b2 : Option Nat → Int32 → Int32 → Int32 → ag_H → ag_R) (l0 : Option Nat) (l1 : Int32) (l2 : Int32) (h : ag_H) : ag_R :=
  f14_2 call b2 l0 l1 l2 (ag_lit 0) h
def g14 (call : Nat → List ag_V → ag_H → ag_R) : Nat → Option Nat → Int32 → Int32 → Int32 → ag_H → ag_R
  | 0 => fun _ _ _ _ _ => none
  | n + 1 => f14_2 call (g14 call n)
set_option maxRecDepth 100000 in
set_option maxHeartbeats 4000000 in
theorem i14_2 (call : Nat → List ag_V → ag_H → ag_R) (B : ag_K4) (l0 : Option Nat) (l1 : Int32) (l2 : Int32) (l3 : Int32) (h : ag_H) : ag_in 1 call B t14 2 [some (.inr l0), some (.inl l1), some (.inl l2), some (.inl l3)] [] h = f14_2 call (fun (l0 : Option Nat) (l1 : Int32) (l2 : Int32) (l3 : Int32) (h : ag_H) => B 2 [some (.inr l0), some (.inl l1), some (.inl l2), some (.inl l3)] [] h) l0 l1 l2 l3 h := by
  rfl
set_option maxRecDepth 100000 in
set_option maxHeartbeats 4000000 in
theorem i14 (call : Nat → List ag_V → ag_H → ag_R) (B : ag_K4) (l0 : Option Nat) (l1 : Int32) (l2 : Int32) (h : ag_H) : ag_in 1 call B t14 0 [some (.inr l0), some (.inl l1), some (.inl l2), none] [] h = f14 call (fun (l0 : Option Nat) (l1 : Int32) (l2 : Int32) (l3 : Int32) (h : ag_H) => B 2 [some (.inr l0), some (.inl l1), some (.inl l2), some (.inl l3)] [] h) l0 l1 l2 h := by
  rfl
set_option maxRecDepth 100000 in
set_option maxHeartbeats 4000000 in
theorem o14 (call : Nat → List ag_V → ag_H → ag_R) : ∀ n : Nat, (fun (l0 : Option Nat) (l1 : Int32) (l2 : Int32) (l3 : Int32) (h : ag_H) => (ag_out 1 call t14 n) 2 [some (.inr l0), some (.inl l1), some (.inl l2), some (.inl l3)] [] h) = g14 call n := by
  intro n
  induction n with
  | zero => rfl
  | succ n ih =>
    funext l0 l1 l2 l3 h
    show ag_in 1 call (ag_out 1 call t14 n) t14 2 [some (.inr l0), some (.inl l1), some (.inl l2), some (.inl l3)] [] h = f14_2 call (g14 call n) l0 l1 l2 l3 h
    rw [i14_2, ih]
set_option maxRecDepth 100000 in
set_option maxHeartbeats 4000000 in
theorem r14 (d : Nat) (l0 : Option Nat) (l1 : Int32) (l2 : Int32) (h : ag_H) : ag_run gT (d + 1) 14 [.inr l0, .inl l1, .inl l2] h = f14 (ag_run gT d) (g14 (ag_run gT d) 3999) l0 l1 l2 h := by
  show ag_out 1 (ag_run gT d) t14 4000 0 [some (.inr l0), some (.inl l1), some (.inl l2), none] [] h = _
  rw [ag_out_top, i14, o14]
def f15_22 (call : Nat → List ag_V → ag_H → ag_R)  (s0 : Option Nat) (h : ag_H) : ag_R :=
  some (.inl (some (.inr s0)), h)
def f15_21 (call : Nat → List ag_V → ag_H → ag_R)   (h : ag_H) : ag_R :=
  f15_22 call none h
/-- NameSpaces$NameSpace.placeAt(I)LNameSpaces$Place; -/
def f15 (call : Nat → List ag_V → ag_H → ag_R)  (l0 : Option Nat) (l1 : Int32) (h : ag_H) : ag_R :=
  if l1 < (ag_lit 0) then
    f15_21 call h
  else
    ag_gI h l0 2 1 fun x1 =>
    if x1 ≤ l1 then
      f15_21 call h
    else
      ag_gR h l0 2 0 fun x2 =>
      ag_xR h x2 107 l1 fun x3 =>
      f15_22 call x3 h
set_option maxRecDepth 100000 in
set_option maxHeartbeats 4000000 in
theorem i15 (call : Nat → List ag_V → ag_H → ag_R) (B : ag_K4) (l0 : Option Nat) (l1 : Int32) (h : ag_H) : ag_in 2 call B t15 0 [some (.inr l0), some (.inl l1)] [] h = f15 call  l0 l1 h := by
  rfl
set_option maxRecDepth 100000 in
set_option maxHeartbeats 4000000 in
theorem r15 (d : Nat) (l0 : Option Nat) (l1 : Int32) (h : ag_H) : ag_run gT (d + 1) 15 [.inr l0, .inl l1] h = f15 (ag_run gT d)  l0 l1 h := by
  show ag_out 2 (ag_run gT d) t15 4000 0 [some (.inr l0), some (.inl l1)] [] h = _
  rw [ag_out_top, i15]
/-- NameSpaces$NameSpace.addPlace(II)LNameSpaces$Handles; -/
def f16 (call : Nat → List ag_V → ag_H → ag_R)  (l0 : Option Nat) (l1 : Int32) (l2 : Int32) (h : ag_H) : ag_R :=
  ag_gI h l0 2 1 fun x1 =>
  ag_bI (call 176 [.inl x1, .inl (ag_lit 3)] h) fun x3 h2 =>
  ag_gR h2 l0 2 0 fun x4 =>
  ag_xR h2 x4 107 x3 fun x5 =>
  ag_gR h2 x5 5 0 fun x6 =>
  ag_pF h2 x6 0 3 (.inl (ag_lit 0)) fun h7 =>
  ag_pF h7 x5 5 1 (.inl l1) fun h8 =>
  ag_pF h8 x5 5 2 (.inl l2) fun h9 =>
  ag_pF h9 l0 2 1 (.inl (x3 + (ag_lit 1))) fun h10 =>
  ag_gR h10 x5 5 0 fun x11 =>
  some (.inl (some (.inr x11)), h10)
set_option maxRecDepth 100000 in
set_option maxHeartbeats 4000000 in
theorem i16 (call : Nat → List ag_V → ag_H → ag_R) (B : ag_K4) (l0 : Option Nat) (l1 : Int32) (l2 : Int32) (h : ag_H) : ag_in 2 call B t16 0 [some (.inr l0), some (.inl l1), some (.inl l2), none, none] [] h = f16 call  l0 l1 l2 h := by
  rfl
set_option maxRecDepth 100000 in
set_option maxHeartbeats 4000000 in
theorem r16 (d : Nat) (l0 : Option Nat) (l1 : Int32) (l2 : Int32) (h : ag_H) : ag_run gT (d + 1) 16 [.inr l0, .inl l1, .inl l2] h = f16 (ag_run gT d)  l0 l1 l2 h := by
  show ag_out 2 (ag_run gT d) t16 4000 0 [some (.inr l0), some (.inl l1), some (.inl l2), none, none] [] h = _
  rw [ag_out_top, i16]
def f17_22 (call : Nat → List ag_V → ag_H → ag_R) (b22 : Option Nat → Option Nat → Int32 → ag_H → ag_R) (l0 : Option Nat) (l2 : Option Nat) (l3 : Int32) (h : ag_H) : ag_R :=
  ag_gI h l0 2 1 fun x1 =>
  if x1 ≤ (l3 + (ag_lit 1)) then
    ag_gR h l0 2 0 fun x2 =>
    ag_gI h l0 2 1 fun x3 =>
    ag_oK h l2 5 <| ag_xP h x2 107 (x3 - (ag_lit 1)) (.inr l2) fun h4 =>
    ag_gI h4 l0 2 1 fun x5 =>
    ag_pF h4 l0 2 1 (.inl (x5 - (ag_lit 1))) fun h6 =>
    some (.inl none, h6)
  else
    ag_gR h l0 2 0 fun x7 =>
    ag_gR h l0 2 0 fun x8 =>
    ag_xR h x8 107 (l3 + (ag_lit 1)) fun x9 =>
    ag_oK h x9 5 <| ag_xP h x7 107 l3 (.inr x9) fun h10 =>
    b22 l0 l2 (l3 + ag_lit 1) h10
def f17_12 (call : Nat → List ag_V → ag_H → ag_R) (b22 : Option Nat → Option Nat → Int32 → ag_H → ag_R)  (h : ag_H) : ag_R :=
  some (.inl none, h)
/-- NameSpaces$NameSpace.dropPlace(I)V -/
def f17 (call : Nat → List ag_V → ag_H → ag_R) (b22 : Option Nat → Option Nat → Int32 → ag_H → ag_R) (l0 : Option Nat) (l1 : Int32) (h : ag_H) : ag_R :=
  if l1 < (ag_lit 0) then
    f17_12 call b22 h
  else
    ag_gI h l0 2 1 fun x1 =>
    if l1 < x1 then
      ag_gR h l0 2 0 fun x2 =>
      ag_xR h x2 107 l1 fun x3 =>
      f17_22 call b22 l0 x3 l1 h
    else
      f17_12 call b22 h
def g17 (call : Nat → List ag_V → ag_H → ag_R) : Nat → Option Nat → Option Nat → Int32 → ag_H → ag_R
  | 0 => fun _ _ _ _ => none
  | n + 1 => f17_22 call (g17 call n)
set_option maxRecDepth 100000 in
set_option maxHeartbeats 4000000 in
theorem i17_22 (call : Nat → List ag_V → ag_H → ag_R) (B : ag_K4) (l0 : Option Nat) (l2 : Option Nat) (l3 : Int32) (h : ag_H) : ag_in 0 call B t17 22 [some (.inr l0), none, some (.inr l2), some (.inl l3)] [] h = f17_22 call (fun (l0 : Option Nat) (l2 : Option Nat) (l3 : Int32) (h : ag_H) => B 22 [some (.inr l0), none, some (.inr l2), some (.inl l3)] [] h) l0 l2 l3 h := by
  rfl
set_option maxRecDepth 100000 in
set_option maxHeartbeats 4000000 in
theorem i17 (call : Nat → List ag_V → ag_H → ag_R) (B : ag_K4) (l0 : Option Nat) (l1 : Int32) (h : ag_H) : ag_in 0 call B t17 0 [some (.inr l0), some (.inl l1), none, none] [] h = f17 call (fun (l0 : Option Nat) (l2 : Option Nat) (l3 : Int32) (h : ag_H) => B 22 [some (.inr l0), none, some (.inr l2), some (.inl l3)] [] h) l0 l1 h := by
  rfl
set_option maxRecDepth 100000 in
set_option maxHeartbeats 4000000 in
theorem o17 (call : Nat → List ag_V → ag_H → ag_R) : ∀ n : Nat, (fun (l0 : Option Nat) (l2 : Option Nat) (l3 : Int32) (h : ag_H) => (ag_out 0 call t17 n) 22 [some (.inr l0), none, some (.inr l2), some (.inl l3)] [] h) = g17 call n := by
  intro n
  induction n with
  | zero => rfl
  | succ n ih =>
    funext l0 l2 l3 h
    show ag_in 0 call (ag_out 0 call t17 n) t17 22 [some (.inr l0), none, some (.inr l2), some (.inl l3)] [] h = f17_22 call (g17 call n) l0 l2 l3 h
    rw [i17_22, ih]
set_option maxRecDepth 100000 in
set_option maxHeartbeats 4000000 in
theorem r17 (d : Nat) (l0 : Option Nat) (l1 : Int32) (h : ag_H) : ag_run gT (d + 1) 17 [.inr l0, .inl l1] h = f17 (ag_run gT d) (g17 (ag_run gT d) 3999) l0 l1 h := by
  show ag_out 0 (ag_run gT d) t17 4000 0 [some (.inr l0), some (.inl l1), none, none] [] h = _
  rw [ag_out_top, i17, o17]
def f18_4 (call : Nat → List ag_V → ag_H → ag_R) (b4 : Option Nat → Int32 → Int32 → ag_H → ag_R) (l0 : Option Nat) (l1 : Int32) (l2 : Int32) (h : ag_H) : ag_R :=
  ag_gI h l0 2 1 fun x1 =>
  if x1 ≤ l2 then
    some (.inl (some (.inl l1)), h)
  else
    ag_gR h l0 2 0 fun x2 =>
    ag_xR h x2 107 l2 fun x3 =>
    ag_gR h x3 5 0 fun x4 =>
    ag_gI h x4 0 3 fun x5 =>
    b4 l0 (l1 + x5) (l2 + ag_lit 1) h
/-- NameSpaces$NameSpace.members()I -/
def f18 (call : Nat → List ag_V → ag_H → ag_R) (b4 : Option Nat → Int32 → Int32 → ag_H → ag_R) (l0 : Option Nat) (h : ag_H) : ag_R :=
  f18_4 call b4 l0 (ag_lit 0) (ag_lit 0) h
def g18 (call : Nat → List ag_V → ag_H → ag_R) : Nat → Option Nat → Int32 → Int32 → ag_H → ag_R
  | 0 => fun _ _ _ _ => none
  | n + 1 => f18_4 call (g18 call n)
set_option maxRecDepth 100000 in
set_option maxHeartbeats 4000000 in
theorem i18_4 (call : Nat → List ag_V → ag_H → ag_R) (B : ag_K4) (l0 : Option Nat) (l1 : Int32) (l2 : Int32) (h : ag_H) : ag_in 1 call B t18 4 [some (.inr l0), some (.inl l1), some (.inl l2)] [] h = f18_4 call (fun (l0 : Option Nat) (l1 : Int32) (l2 : Int32) (h : ag_H) => B 4 [some (.inr l0), some (.inl l1), some (.inl l2)] [] h) l0 l1 l2 h := by
  rfl
set_option maxRecDepth 100000 in
set_option maxHeartbeats 4000000 in
theorem i18 (call : Nat → List ag_V → ag_H → ag_R) (B : ag_K4) (l0 : Option Nat) (h : ag_H) : ag_in 1 call B t18 0 [some (.inr l0), none, none] [] h = f18 call (fun (l0 : Option Nat) (l1 : Int32) (l2 : Int32) (h : ag_H) => B 4 [some (.inr l0), some (.inl l1), some (.inl l2)] [] h) l0 h := by
  rfl
set_option maxRecDepth 100000 in
set_option maxHeartbeats 4000000 in
theorem o18 (call : Nat → List ag_V → ag_H → ag_R) : ∀ n : Nat, (fun (l0 : Option Nat) (l1 : Int32) (l2 : Int32) (h : ag_H) => (ag_out 1 call t18 n) 4 [some (.inr l0), some (.inl l1), some (.inl l2)] [] h) = g18 call n := by
  intro n
  induction n with
  | zero => rfl
  | succ n ih =>
    funext l0 l1 l2 h
    show ag_in 1 call (ag_out 1 call t18 n) t18 4 [some (.inr l0), some (.inl l1), some (.inl l2)] [] h = f18_4 call (g18 call n) l0 l1 l2 h
    rw [i18_4, ih]
set_option maxRecDepth 100000 in
set_option maxHeartbeats 4000000 in
theorem r18 (d : Nat) (l0 : Option Nat) (h : ag_H) : ag_run gT (d + 1) 18 [.inr l0] h = f18 (ag_run gT d) (g18 (ag_run gT d) 3999) l0 h := by
  show ag_out 1 (ag_run gT d) t18 4000 0 [some (.inr l0), none, none] [] h = _
  rw [ag_out_top, i18, o18]
/-- NameSpaces$OpenFile.<init>()V -/
def f19 (call : Nat → List ag_V → ag_H → ag_R)  (l0 : Option Nat) (h : ag_H) : ag_R :=
  ag_nn l0 <|
  ag_nw h 0 fun o1 h2 =>
  ag_nn o1 <| ag_bW (call 0 [.inr o1] h2) fun h3 =>
  ag_pF h3 l0 3 0 (.inr o1) fun h4 =>
  some (.inl none, h4)
set_option maxRecDepth 100000 in
set_option maxHeartbeats 4000000 in
theorem i19 (call : Nat → List ag_V → ag_H → ag_R) (B : ag_K4) (l0 : Option Nat) (h : ag_H) : ag_in 0 call B t19 0 [some (.inr l0)] [] h = f19 call  l0 h := by
  rfl
set_option maxRecDepth 100000 in
set_option maxHeartbeats 4000000 in
theorem r19 (d : Nat) (l0 : Option Nat) (h : ag_H) : ag_run gT (d + 1) 19 [.inr l0] h = f19 (ag_run gT d)  l0 h := by
  show ag_out 0 (ag_run gT d) t19 4000 0 [some (.inr l0)] [] h = _
  rw [ag_out_top, i19]
/-- NameSpaces$OpenFile.begin(I)V -/
def f20 (call : Nat → List ag_V → ag_H → ag_R)  (l0 : Option Nat) (l1 : Int32) (h : ag_H) : ag_R :=
  ag_isB (ag_lit 1) <| ag_pF h l0 3 1 (.inl (ag_lit 1)) fun h1 =>
  ag_pF h1 l0 3 3 (.inl l1) fun h2 =>
  ag_pF h2 l0 3 4 (.inl (ag_lit 0)) fun h3 =>
  ag_pF h3 l0 3 5 (.inl (ag_lit 0)) fun h4 =>
  some (.inl none, h4)
set_option maxRecDepth 100000 in
set_option maxHeartbeats 4000000 in
theorem i20 (call : Nat → List ag_V → ag_H → ag_R) (B : ag_K4) (l0 : Option Nat) (l1 : Int32) (h : ag_H) : ag_in 0 call B t20 0 [some (.inr l0), some (.inl l1)] [] h = f20 call  l0 l1 h := by
  rfl
set_option maxRecDepth 100000 in
set_option maxHeartbeats 4000000 in
theorem r20 (d : Nat) (l0 : Option Nat) (l1 : Int32) (h : ag_H) : ag_run gT (d + 1) 20 [.inr l0, .inl l1] h = f20 (ag_run gT d)  l0 l1 h := by
  show ag_out 0 (ag_run gT d) t20 4000 0 [some (.inr l0), some (.inl l1)] [] h = _
  rw [ag_out_top, i20]
/-- NameSpaces$OpenFile.serverNow()I -/
def f21 (call : Nat → List ag_V → ag_H → ag_R)  (l0 : Option Nat) (h : ag_H) : ag_R :=
  ag_gR h l0 3 0 fun x1 =>
  ag_gI h l0 3 4 fun x2 =>
  ag_at h x1 0 fun a3 _ => ag_bI (call 3 [.inr (some a3), .inl x2] h) fun x5 h4 =>
  some (.inl (some (.inl x5)), h4)
set_option maxRecDepth 100000 in
set_option maxHeartbeats 4000000 in
theorem i21 (call : Nat → List ag_V → ag_H → ag_R) (B : ag_K4) (l0 : Option Nat) (h : ag_H) : ag_in 1 call B t21 0 [some (.inr l0)] [] h = f21 call  l0 h := by
  rfl
set_option maxRecDepth 100000 in
set_option maxHeartbeats 4000000 in
theorem r21 (d : Nat) (l0 : Option Nat) (h : ag_H) : ag_run gT (d + 1) 21 [.inr l0] h = f21 (ag_run gT d)  l0 h := by
  show ag_out 1 (ag_run gT d) t21 4000 0 [some (.inr l0)] [] h = _
  rw [ag_out_top, i21]
/-- NameSpaces$OpenFile.handleNow()I -/
def f22 (call : Nat → List ag_V → ag_H → ag_R)  (l0 : Option Nat) (h : ag_H) : ag_R :=
  ag_gR h l0 3 0 fun x1 =>
  ag_gI h l0 3 4 fun x2 =>
  ag_at h x1 0 fun a3 _ => ag_bI (call 4 [.inr (some a3), .inl x2] h) fun x5 h4 =>
  some (.inl (some (.inl x5)), h4)
set_option maxRecDepth 100000 in
set_option maxHeartbeats 4000000 in
theorem i22 (call : Nat → List ag_V → ag_H → ag_R) (B : ag_K4) (l0 : Option Nat) (h : ag_H) : ag_in 1 call B t22 0 [some (.inr l0)] [] h = f22 call  l0 h := by
  rfl
set_option maxRecDepth 100000 in
set_option maxHeartbeats 4000000 in
theorem r22 (d : Nat) (l0 : Option Nat) (h : ag_H) : ag_run gT (d + 1) 22 [.inr l0] h = f22 (ag_run gT d)  l0 h := by
  show ag_out 1 (ag_run gT d) t22 4000 0 [some (.inr l0)] [] h = _
  rw [ag_out_top, i22]
/-- NameSpaces$OpenFile.goOn()Z -/
def f23 (call : Nat → List ag_V → ag_H → ag_R)  (l0 : Option Nat) (h : ag_H) : ag_R :=
  ag_gI h l0 3 4 fun x1 =>
  ag_gR h l0 3 0 fun x2 =>
  ag_gI h x2 0 3 fun x3 =>
  if (x1 + (ag_lit 1)) < x3 then
    ag_gI h l0 3 4 fun x4 =>
    ag_pF h l0 3 4 (.inl (x4 + (ag_lit 1))) fun h5 =>
    ag_pF h5 l0 3 5 (.inl (ag_lit 0)) fun h6 =>
    ag_isB (ag_lit 1) (some (.inl (some (.inl (ag_lit 1))), h6))
  else
    ag_isB (ag_lit 0) (some (.inl (some (.inl (ag_lit 0))), h))
set_option maxRecDepth 100000 in
set_option maxHeartbeats 4000000 in
theorem i23 (call : Nat → List ag_V → ag_H → ag_R) (B : ag_K4) (l0 : Option Nat) (h : ag_H) : ag_in 4 call B t23 0 [some (.inr l0)] [] h = f23 call  l0 h := by
  rfl
set_option maxRecDepth 100000 in
set_option maxHeartbeats 4000000 in
theorem r23 (d : Nat) (l0 : Option Nat) (h : ag_H) : ag_run gT (d + 1) 23 [.inr l0] h = f23 (ag_run gT d)  l0 h := by
  show ag_out 4 (ag_run gT d) t23 4000 0 [some (.inr l0)] [] h = _
  rw [ag_out_top, i23]
/-- NameSpaces$Path.<init>()V -/
def f24 (call : Nat → List ag_V → ag_H → ag_R)  (l0 : Option Nat) (h : ag_H) : ag_R :=
  ag_nn l0 <|
  ag_na h (ag_lit8 12) 101 (.inl 0) fun o1 h2 =>
  ag_pF h2 l0 4 0 (.inr o1) fun h3 =>
  some (.inl none, h3)
set_option maxRecDepth 100000 in
set_option maxHeartbeats 4000000 in
theorem i24 (call : Nat → List ag_V → ag_H → ag_R) (B : ag_K4) (l0 : Option Nat) (h : ag_H) : ag_in 0 call B t24 0 [some (.inr l0)] [] h = f24 call  l0 h := by
  rfl
set_option maxRecDepth 100000 in
set_option maxHeartbeats 4000000 in
theorem r24 (d : Nat) (l0 : Option Nat) (h : ag_H) : ag_run gT (d + 1) 24 [.inr l0] h = f24 (ag_run gT d)  l0 h := by
  show ag_out 0 (ag_run gT d) t24 4000 0 [some (.inr l0)] [] h = _
  rw [ag_out_top, i24]
def f25_170 (call : Nat → List ag_V → ag_H → ag_R) (b55 : Option Nat → Option Nat → Int32 → ag_H → ag_R)  (h : ag_H) : ag_R :=
  some (.inl none, h)
def f25_167 (call : Nat → List ag_V → ag_H → ag_R) (b55 : Option Nat → Option Nat → Int32 → ag_H → ag_R) (l0 : Option Nat) (l1 : Option Nat) (l3 : Int32) (h : ag_H) : ag_R :=
  b55 l0 l1 l3 h
def f25_162 (call : Nat → List ag_V → ag_H → ag_R) (b55 : Option Nat → Option Nat → Int32 → ag_H → ag_R) (l0 : Option Nat) (l1 : Option Nat) (l3 : Int32) (h : ag_H) : ag_R :=
  ag_isB (ag_lit 0) <| ag_pF h l0 4 2 (.inl (ag_lit 0)) fun h1 =>
  f25_167 call b55 l0 l1 l3 h1
def f25_123 (call : Nat → List ag_V → ag_H → ag_R) (b55 : Option Nat → Option Nat → Int32 → ag_H → ag_R) (l0 : Option Nat) (l1 : Option Nat) (l3 : Int32) (l4 : Int32) (h : ag_H) : ag_R :=
  if l4 = (ag_lit8 46) then
    ag_at h l1 8 fun a1 _ => ag_bI (call 58 [.inr (some a1), .inl (l3 + (ag_lit 2))] h) fun x3 h2 =>
    if x3 = (ag_lit8 46) then
      ag_gI h2 l0 4 1 fun x4 =>
      ag_bI (call 175 [.inl (ag_lit 0), .inl (x4 - (ag_lit 1))] h2) fun x6 h5 =>
      ag_pF h5 l0 4 1 (.inl x6) fun h7 =>
      f25_167 call b55 l0 l1 (l3 + ag_lit 3) h7
    else
      f25_162 call b55 l0 l1 l3 h2
  else
    f25_162 call b55 l0 l1 l3 h
def f25_55 (call : Nat → List ag_V → ag_H → ag_R) (b55 : Option Nat → Option Nat → Int32 → ag_H → ag_R) (l0 : Option Nat) (l1 : Option Nat) (l3 : Int32) (h : ag_H) : ag_R :=
  ag_gI h l0 4 2 fun x1 =>
  if x1 = (ag_lit 0) then
    f25_170 call b55 h
  else
    ag_gI h l1 8 1 fun x2 =>
    if x2 ≤ l3 then
      f25_170 call b55 h
    else
      ag_at h l1 8 fun a3 _ => ag_bI (call 58 [.inr (some a3), .inl (l3 + (ag_lit 1))] h) fun x5 h4 =>
      ag_at h4 l1 8 fun a6 _ => ag_bI (call 58 [.inr (some a6), .inl l3] h4) fun x8 h7 =>
      if x8 = (ag_lit8 47) then
        if x5 < (ag_lit8 97) then
          f25_123 call b55 l0 l1 l3 x5 h7
        else
          if (ag_lit8 104) < x5 then
            f25_123 call b55 l0 l1 l3 x5 h7
          else
            ag_at h7 l0 4 fun a9 _ => ag_bV (call 26 [.inr (some a9), .inl x5] h7) fun h10 =>
            f25_167 call b55 l0 l1 (l3 + ag_lit 2) h10
      else
        ag_isB (ag_lit 0) <| ag_pF h7 l0 4 2 (.inl (ag_lit 0)) fun h11 =>
        f25_167 call b55 l0 l1 l3 h11
def f25_54 (call : Nat → List ag_V → ag_H → ag_R) (b55 : Option Nat → Option Nat → Int32 → ag_H → ag_R) (l0 : Option Nat) (l1 : Option Nat) (s0 : Int32) (h : ag_H) : ag_R :=
  f25_55 call b55 l0 l1 s0 h
def f25_44 (call : Nat → List ag_V → ag_H → ag_R) (b55 : Option Nat → Option Nat → Int32 → ag_H → ag_R) (l0 : Option Nat) (l1 : Option Nat) (s0 : Int32) (h : ag_H) : ag_R :=
  if s0 = (ag_lit 0) then
    f25_54 call b55 l0 l1 (ag_lit 0) h
  else
    f25_54 call b55 l0 l1 (ag_lit 1) h
def f25_43 (call : Nat → List ag_V → ag_H → ag_R) (b55 : Option Nat → Option Nat → Int32 → ag_H → ag_R) (l0 : Option Nat) (l1 : Option Nat) (h : ag_H) : ag_R :=
  f25_44 call b55 l0 l1 (ag_lit 0) h
def f25_18 (call : Nat → List ag_V → ag_H → ag_R) (b55 : Option Nat → Option Nat → Int32 → ag_H → ag_R) (l0 : Option Nat) (l1 : Option Nat) (s0 : Option Nat) (s1 : Int32) (h : ag_H) : ag_R :=
  ag_isB s1 <| ag_pF h s0 4 2 (.inl s1) fun h1 =>
  ag_gI h1 l1 8 1 fun x2 =>
  if x2 = (ag_lit 1) then
    ag_at h1 l1 8 fun a3 _ => ag_bI (call 58 [.inr (some a3), .inl (ag_lit 0)] h1) fun x5 h4 =>
    if x5 = (ag_lit8 47) then
      f25_44 call b55 l0 l1 (ag_lit 1) h4
    else
      f25_43 call b55 l0 l1 h4
  else
    f25_43 call b55 l0 l1 h1
/-- NameSpaces$Path.readFrom(LNameSpaces$Text;)V -/
def f25 (call : Nat → List ag_V → ag_H → ag_R) (b55 : Option Nat → Option Nat → Int32 → ag_H → ag_R) (l0 : Option Nat) (l1 : Option Nat) (h : ag_H) : ag_R :=
  ag_pF h l0 4 1 (.inl (ag_lit 0)) fun h1 =>
  ag_gI h1 l1 8 1 fun x2 =>
  if x2 ≤ (ag_lit 0) then
    f25_18 call b55 l0 l1 l0 (ag_lit 0) h1
  else
    f25_18 call b55 l0 l1 l0 (ag_lit 1) h1
def g25 (call : Nat → List ag_V → ag_H → ag_R) : Nat → Option Nat → Option Nat → Int32 → ag_H → ag_R
  | 0 => fun _ _ _ _ => none
  | n + 1 => f25_55 call (g25 call n)
set_option maxRecDepth 100000 in
set_option maxHeartbeats 4000000 in
theorem i25_55 (call : Nat → List ag_V → ag_H → ag_R) (B : ag_K4) (l0 : Option Nat) (l1 : Option Nat) (l3 : Int32) (h : ag_H) : ag_in 0 call B t25 55 [some (.inr l0), some (.inr l1), none, some (.inl l3), none] [] h = f25_55 call (fun (l0 : Option Nat) (l1 : Option Nat) (l3 : Int32) (h : ag_H) => B 55 [some (.inr l0), some (.inr l1), none, some (.inl l3), none] [] h) l0 l1 l3 h := by
  rfl
set_option maxRecDepth 100000 in
set_option maxHeartbeats 4000000 in
theorem i25 (call : Nat → List ag_V → ag_H → ag_R) (B : ag_K4) (l0 : Option Nat) (l1 : Option Nat) (h : ag_H) : ag_in 0 call B t25 0 [some (.inr l0), some (.inr l1), none, none, none] [] h = f25 call (fun (l0 : Option Nat) (l1 : Option Nat) (l3 : Int32) (h : ag_H) => B 55 [some (.inr l0), some (.inr l1), none, some (.inl l3), none] [] h) l0 l1 h := by
  rfl
set_option maxRecDepth 100000 in
set_option maxHeartbeats 4000000 in
theorem o25 (call : Nat → List ag_V → ag_H → ag_R) : ∀ n : Nat, (fun (l0 : Option Nat) (l1 : Option Nat) (l3 : Int32) (h : ag_H) => (ag_out 0 call t25 n) 55 [some (.inr l0), some (.inr l1), none, some (.inl l3), none] [] h) = g25 call n := by
  intro n
  induction n with
  | zero => rfl
  | succ n ih =>
    funext l0 l1 l3 h
    show ag_in 0 call (ag_out 0 call t25 n) t25 55 [some (.inr l0), some (.inr l1), none, some (.inl l3), none] [] h = f25_55 call (g25 call n) l0 l1 l3 h
    rw [i25_55, ih]
set_option maxRecDepth 100000 in
set_option maxHeartbeats 4000000 in
theorem r25 (d : Nat) (l0 : Option Nat) (l1 : Option Nat) (h : ag_H) : ag_run gT (d + 1) 25 [.inr l0, .inr l1] h = f25 (ag_run gT d) (g25 (ag_run gT d) 3999) l0 l1 h := by
  show ag_out 0 (ag_run gT d) t25 4000 0 [some (.inr l0), some (.inr l1), none, none, none] [] h = _
  rw [ag_out_top, i25, o25]
def f26_29 (call : Nat → List ag_V → ag_H → ag_R)   (h : ag_H) : ag_R :=
  some (.inl none, h)
/-- NameSpaces$Path.push(C)V -/
def f26 (call : Nat → List ag_V → ag_H → ag_R)  (l0 : Option Nat) (l1 : Int32) (h : ag_H) : ag_R :=
  ag_gI h l0 4 1 fun x1 =>
  if (ag_lit8 12) ≤ x1 then
    f26_29 call h
  else
    ag_gR h l0 4 0 fun x2 =>
    ag_gI h l0 4 1 fun x3 =>
    ag_isC l1 <| ag_xP h x2 101 x3 (.inl l1) fun h4 =>
    ag_gI h4 l0 4 1 fun x5 =>
    ag_pF h4 l0 4 1 (.inl (x5 + (ag_lit 1))) fun h6 =>
    f26_29 call h6
set_option maxRecDepth 100000 in
set_option maxHeartbeats 4000000 in
theorem i26 (call : Nat → List ag_V → ag_H → ag_R) (B : ag_K4) (l0 : Option Nat) (l1 : Int32) (h : ag_H) : ag_in 0 call B t26 0 [some (.inr l0), some (.inl l1)] [] h = f26 call  l0 l1 h := by
  rfl
set_option maxRecDepth 100000 in
set_option maxHeartbeats 4000000 in
theorem r26 (d : Nat) (l0 : Option Nat) (l1 : Int32) (h : ag_H) : ag_run gT (d + 1) 26 [.inr l0, .inl l1] h = f26 (ag_run gT d)  l0 l1 h := by
  show ag_out 0 (ag_run gT d) t26 4000 0 [some (.inr l0), some (.inl l1)] [] h = _
  rw [ag_out_top, i26]
def f27_28 (call : Nat → List ag_V → ag_H → ag_R)  (s0 : Int32) (h : ag_H) : ag_R :=
  ag_isC s0 (some (.inl (some (.inl s0)), h))
def f27_27 (call : Nat → List ag_V → ag_H → ag_R)   (h : ag_H) : ag_R :=
  f27_28 call (ag_lit 0) h
/-- NameSpaces$Path.name(I)C -/
def f27 (call : Nat → List ag_V → ag_H → ag_R)  (l0 : Option Nat) (l1 : Int32) (h : ag_H) : ag_R :=
  if l1 < (ag_lit 0) then
    f27_27 call h
  else
    ag_gI h l0 4 1 fun x1 =>
    if x1 ≤ l1 then
      f27_27 call h
    else
      if (ag_lit8 12) ≤ l1 then
        f27_27 call h
      else
        ag_gR h l0 4 0 fun x2 =>
        ag_xI h x2 101 l1 fun x3 =>
        f27_28 call x3 h
set_option maxRecDepth 100000 in
set_option maxHeartbeats 4000000 in
theorem i27 (call : Nat → List ag_V → ag_H → ag_R) (B : ag_K4) (l0 : Option Nat) (l1 : Int32) (h : ag_H) : ag_in 3 call B t27 0 [some (.inr l0), some (.inl l1)] [] h = f27 call  l0 l1 h := by
  rfl
set_option maxRecDepth 100000 in
set_option maxHeartbeats 4000000 in
theorem r27 (d : Nat) (l0 : Option Nat) (l1 : Int32) (h : ag_H) : ag_run gT (d + 1) 27 [.inr l0, .inl l1] h = f27 (ag_run gT d)  l0 l1 h := by
  show ag_out 3 (ag_run gT d) t27 4000 0 [some (.inr l0), some (.inl l1)] [] h = _
  rw [ag_out_top, i27]
/-- NameSpaces$Place.<init>()V -/
def f28 (call : Nat → List ag_V → ag_H → ag_R)  (l0 : Option Nat) (h : ag_H) : ag_R :=
  ag_nn l0 <|
  ag_nw h 0 fun o1 h2 =>
  ag_nn o1 <| ag_bW (call 0 [.inr o1] h2) fun h3 =>
  ag_pF h3 l0 5 0 (.inr o1) fun h4 =>
  some (.inl none, h4)
set_option maxRecDepth 100000 in
set_option maxHeartbeats 4000000 in
theorem i28 (call : Nat → List ag_V → ag_H → ag_R) (B : ag_K4) (l0 : Option Nat) (h : ag_H) : ag_in 0 call B t28 0 [some (.inr l0)] [] h = f28 call  l0 h := by
  rfl
set_option maxRecDepth 100000 in
set_option maxHeartbeats 4000000 in
theorem r28 (d : Nat) (l0 : Option Nat) (h : ag_H) : ag_run gT (d + 1) 28 [.inr l0] h = f28 (ag_run gT d)  l0 h := by
  show ag_out 0 (ag_run gT d) t28 4000 0 [some (.inr l0)] [] h = _
  rw [ag_out_top, i28]
def f29_14 (call : Nat → List ag_V → ag_H → ag_R) (b14 : Option Nat → Int32 → ag_H → ag_R) (l0 : Option Nat) (l1 : Int32) (h : ag_H) : ag_R :=
  if (ag_lit 5) ≤ l1 then
    some (.inl none, h)
  else
    ag_gR h l0 6 0 fun x1 =>
    ag_nw h 3 fun o2 h3 =>
    ag_nn o2 <| ag_bW (call 19 [.inr o2] h3) fun h4 =>
    ag_oK h4 o2 3 <| ag_xP h4 x1 108 l1 (.inr o2) fun h5 =>
    b14 l0 (l1 + ag_lit 1) h5
/-- NameSpaces$Proc.<init>()V -/
def f29 (call : Nat → List ag_V → ag_H → ag_R) (b14 : Option Nat → Int32 → ag_H → ag_R) (l0 : Option Nat) (h : ag_H) : ag_R :=
  ag_nn l0 <|
  ag_na h (ag_lit 5) 108 (.inr none) fun o1 h2 =>
  ag_pF h2 l0 6 0 (.inr o1) fun h3 =>
  f29_14 call b14 l0 (ag_lit 0) h3
def g29 (call : Nat → List ag_V → ag_H → ag_R) : Nat → Option Nat → Int32 → ag_H → ag_R
  | 0 => fun _ _ _ => none
  | n + 1 => f29_14 call (g29 call n)
set_option maxRecDepth 100000 in
set_option maxHeartbeats 4000000 in
theorem i29_14 (call : Nat → List ag_V → ag_H → ag_R) (B : ag_K4) (l0 : Option Nat) (l1 : Int32) (h : ag_H) : ag_in 0 call B t29 14 [some (.inr l0), some (.inl l1)] [] h = f29_14 call (fun (l0 : Option Nat) (l1 : Int32) (h : ag_H) => B 14 [some (.inr l0), some (.inl l1)] [] h) l0 l1 h := by
  rfl
set_option maxRecDepth 100000 in
set_option maxHeartbeats 4000000 in
theorem i29 (call : Nat → List ag_V → ag_H → ag_R) (B : ag_K4) (l0 : Option Nat) (h : ag_H) : ag_in 0 call B t29 0 [some (.inr l0), none] [] h = f29 call (fun (l0 : Option Nat) (l1 : Int32) (h : ag_H) => B 14 [some (.inr l0), some (.inl l1)] [] h) l0 h := by
  rfl
set_option maxRecDepth 100000 in
set_option maxHeartbeats 4000000 in
theorem o29 (call : Nat → List ag_V → ag_H → ag_R) : ∀ n : Nat, (fun (l0 : Option Nat) (l1 : Int32) (h : ag_H) => (ag_out 0 call t29 n) 14 [some (.inr l0), some (.inl l1)] [] h) = g29 call n := by
  intro n
  induction n with
  | zero => rfl
  | succ n ih =>
    funext l0 l1 h
    show ag_in 0 call (ag_out 0 call t29 n) t29 14 [some (.inr l0), some (.inl l1)] [] h = f29_14 call (g29 call n) l0 l1 h
    rw [i29_14, ih]
set_option maxRecDepth 100000 in
set_option maxHeartbeats 4000000 in
theorem r29 (d : Nat) (l0 : Option Nat) (h : ag_H) : ag_run gT (d + 1) 29 [.inr l0] h = f29 (ag_run gT d) (g29 (ag_run gT d) 3999) l0 h := by
  show ag_out 0 (ag_run gT d) t29 4000 0 [some (.inr l0), none] [] h = _
  rw [ag_out_top, i29, o29]
/-- NameSpaces$Proc.begin(LNameSpaces$NameSpace;)V -/
def f30 (call : Nat → List ag_V → ag_H → ag_R)  (l0 : Option Nat) (l1 : Option Nat) (h : ag_H) : ag_R :=
  ag_pF h l0 6 1 (.inr l1) fun h1 =>
  ag_gI h1 l1 2 2 fun x2 =>
  ag_pF h1 l1 2 2 (.inl (x2 + (ag_lit 1))) fun h3 =>
  some (.inl none, h3)
set_option maxRecDepth 100000 in
set_option maxHeartbeats 4000000 in
theorem i30 (call : Nat → List ag_V → ag_H → ag_R) (B : ag_K4) (l0 : Option Nat) (l1 : Option Nat) (h : ag_H) : ag_in 0 call B t30 0 [some (.inr l0), some (.inr l1)] [] h = f30 call  l0 l1 h := by
  rfl
set_option maxRecDepth 100000 in
set_option maxHeartbeats 4000000 in
theorem r30 (d : Nat) (l0 : Option Nat) (l1 : Option Nat) (h : ag_H) : ag_run gT (d + 1) 30 [.inr l0, .inr l1] h = f30 (ag_run gT d)  l0 l1 h := by
  show ag_out 0 (ag_run gT d) t30 4000 0 [some (.inr l0), some (.inr l1)] [] h = _
  rw [ag_out_top, i30]
def f31_20 (call : Nat → List ag_V → ag_H → ag_R)  (l0 : Option Nat) (h : ag_H) : ag_R :=
  ag_pF h l0 6 1 (.inr none) fun h1 =>
  some (.inl none, h1)
/-- NameSpaces$Proc.end()V -/
def f31 (call : Nat → List ag_V → ag_H → ag_R)  (l0 : Option Nat) (h : ag_H) : ag_R :=
  ag_gR h l0 6 1 fun x1 =>
  if x1 = none then
    f31_20 call l0 h
  else
    ag_gR h l0 6 1 fun x2 =>
    ag_gI h x2 2 2 fun x3 =>
    ag_pF h x2 2 2 (.inl (x3 - (ag_lit 1))) fun h4 =>
    f31_20 call l0 h4
set_option maxRecDepth 100000 in
set_option maxHeartbeats 4000000 in
theorem i31 (call : Nat → List ag_V → ag_H → ag_R) (B : ag_K4) (l0 : Option Nat) (h : ag_H) : ag_in 0 call B t31 0 [some (.inr l0)] [] h = f31 call  l0 h := by
  rfl
set_option maxRecDepth 100000 in
set_option maxHeartbeats 4000000 in
theorem r31 (d : Nat) (l0 : Option Nat) (h : ag_H) : ag_run gT (d + 1) 31 [.inr l0] h = f31 (ag_run gT d)  l0 h := by
  show ag_out 0 (ag_run gT d) t31 4000 0 [some (.inr l0)] [] h = _
  rw [ag_out_top, i31]
def f32_2 (call : Nat → List ag_V → ag_H → ag_R) (b2 : Option Nat → Int32 → ag_H → ag_R) (l0 : Option Nat) (l1 : Int32) (h : ag_H) : ag_R :=
  if (ag_lit 5) ≤ l1 then
    some (.inl (some (.inl (ag_lit (-1)))), h)
  else
    ag_gR h l0 6 0 fun x1 =>
    ag_xR h x1 108 l1 fun x2 =>
    ag_gI h x2 3 1 fun x3 =>
    if x3 = (ag_lit 0) then
      some (.inl (some (.inl l1)), h)
    else
      b2 l0 (l1 + ag_lit 1) h
/-- NameSpaces$Proc.leastFree()I -/
def f32 (call : Nat → List ag_V → ag_H → ag_R) (b2 : Option Nat → Int32 → ag_H → ag_R) (l0 : Option Nat) (h : ag_H) : ag_R :=
  f32_2 call b2 l0 (ag_lit 0) h
def g32 (call : Nat → List ag_V → ag_H → ag_R) : Nat → Option Nat → Int32 → ag_H → ag_R
  | 0 => fun _ _ _ => none
  | n + 1 => f32_2 call (g32 call n)
set_option maxRecDepth 100000 in
set_option maxHeartbeats 4000000 in
theorem i32_2 (call : Nat → List ag_V → ag_H → ag_R) (B : ag_K4) (l0 : Option Nat) (l1 : Int32) (h : ag_H) : ag_in 1 call B t32 2 [some (.inr l0), some (.inl l1)] [] h = f32_2 call (fun (l0 : Option Nat) (l1 : Int32) (h : ag_H) => B 2 [some (.inr l0), some (.inl l1)] [] h) l0 l1 h := by
  rfl
set_option maxRecDepth 100000 in
set_option maxHeartbeats 4000000 in
theorem i32 (call : Nat → List ag_V → ag_H → ag_R) (B : ag_K4) (l0 : Option Nat) (h : ag_H) : ag_in 1 call B t32 0 [some (.inr l0), none] [] h = f32 call (fun (l0 : Option Nat) (l1 : Int32) (h : ag_H) => B 2 [some (.inr l0), some (.inl l1)] [] h) l0 h := by
  rfl
set_option maxRecDepth 100000 in
set_option maxHeartbeats 4000000 in
theorem o32 (call : Nat → List ag_V → ag_H → ag_R) : ∀ n : Nat, (fun (l0 : Option Nat) (l1 : Int32) (h : ag_H) => (ag_out 1 call t32 n) 2 [some (.inr l0), some (.inl l1)] [] h) = g32 call n := by
  intro n
  induction n with
  | zero => rfl
  | succ n ih =>
    funext l0 l1 h
    show ag_in 1 call (ag_out 1 call t32 n) t32 2 [some (.inr l0), some (.inl l1)] [] h = f32_2 call (g32 call n) l0 l1 h
    rw [i32_2, ih]
set_option maxRecDepth 100000 in
set_option maxHeartbeats 4000000 in
theorem r32 (d : Nat) (l0 : Option Nat) (h : ag_H) : ag_run gT (d + 1) 32 [.inr l0] h = f32 (ag_run gT d) (g32 (ag_run gT d) 3999) l0 h := by
  show ag_out 1 (ag_run gT d) t32 4000 0 [some (.inr l0), none] [] h = _
  rw [ag_out_top, i32, o32]
def f33_24 (call : Nat → List ag_V → ag_H → ag_R) (b4 : Option Nat → Int32 → Int32 → ag_H → ag_R) (l0 : Option Nat) (l1 : Int32) (l2 : Int32) (h : ag_H) : ag_R :=
  b4 l0 l1 (l2 + ag_lit 1) h
def f33_4 (call : Nat → List ag_V → ag_H → ag_R) (b4 : Option Nat → Int32 → Int32 → ag_H → ag_R) (l0 : Option Nat) (l1 : Int32) (l2 : Int32) (h : ag_H) : ag_R :=
  if (ag_lit 5) ≤ l2 then
    some (.inl (some (.inl l1)), h)
  else
    ag_gR h l0 6 0 fun x1 =>
    ag_xR h x1 108 l2 fun x2 =>
    ag_gI h x2 3 1 fun x3 =>
    if x3 = (ag_lit 0) then
      f33_24 call b4 l0 l1 l2 h
    else
      f33_24 call b4 l0 (l1 + ag_lit 1) l2 h
/-- NameSpaces$Proc.openFiles()I -/
def f33 (call : Nat → List ag_V → ag_H → ag_R) (b4 : Option Nat → Int32 → Int32 → ag_H → ag_R) (l0 : Option Nat) (h : ag_H) : ag_R :=
  f33_4 call b4 l0 (ag_lit 0) (ag_lit 0) h
def g33 (call : Nat → List ag_V → ag_H → ag_R) : Nat → Option Nat → Int32 → Int32 → ag_H → ag_R
  | 0 => fun _ _ _ _ => none
  | n + 1 => f33_4 call (g33 call n)
set_option maxRecDepth 100000 in
set_option maxHeartbeats 4000000 in
theorem i33_4 (call : Nat → List ag_V → ag_H → ag_R) (B : ag_K4) (l0 : Option Nat) (l1 : Int32) (l2 : Int32) (h : ag_H) : ag_in 1 call B t33 4 [some (.inr l0), some (.inl l1), some (.inl l2)] [] h = f33_4 call (fun (l0 : Option Nat) (l1 : Int32) (l2 : Int32) (h : ag_H) => B 4 [some (.inr l0), some (.inl l1), some (.inl l2)] [] h) l0 l1 l2 h := by
  rfl
set_option maxRecDepth 100000 in
set_option maxHeartbeats 4000000 in
theorem i33 (call : Nat → List ag_V → ag_H → ag_R) (B : ag_K4) (l0 : Option Nat) (h : ag_H) : ag_in 1 call B t33 0 [some (.inr l0), none, none] [] h = f33 call (fun (l0 : Option Nat) (l1 : Int32) (l2 : Int32) (h : ag_H) => B 4 [some (.inr l0), some (.inl l1), some (.inl l2)] [] h) l0 h := by
  rfl
set_option maxRecDepth 100000 in
set_option maxHeartbeats 4000000 in
theorem o33 (call : Nat → List ag_V → ag_H → ag_R) : ∀ n : Nat, (fun (l0 : Option Nat) (l1 : Int32) (l2 : Int32) (h : ag_H) => (ag_out 1 call t33 n) 4 [some (.inr l0), some (.inl l1), some (.inl l2)] [] h) = g33 call n := by
  intro n
  induction n with
  | zero => rfl
  | succ n ih =>
    funext l0 l1 l2 h
    show ag_in 1 call (ag_out 1 call t33 n) t33 4 [some (.inr l0), some (.inl l1), some (.inl l2)] [] h = f33_4 call (g33 call n) l0 l1 l2 h
    rw [i33_4, ih]
set_option maxRecDepth 100000 in
set_option maxHeartbeats 4000000 in
theorem r33 (d : Nat) (l0 : Option Nat) (h : ag_H) : ag_run gT (d + 1) 33 [.inr l0] h = f33 (ag_run gT d) (g33 (ag_run gT d) 3999) l0 h := by
  show ag_out 1 (ag_run gT d) t33 4000 0 [some (.inr l0), none, none] [] h = _
  rw [ag_out_top, i33, o33]
/-- NameSpaces$Server.<init>()V -/
def f34 (call : Nat → List ag_V → ag_H → ag_R)  (l0 : Option Nat) (h : ag_H) : ag_R :=
  ag_nn l0 <|
  ag_nw h 1 fun o1 h2 =>
  ag_nn o1 <| ag_bW (call 7 [.inr o1] h2) fun h3 =>
  ag_pF h3 l0 7 0 (.inr o1) fun h4 =>
  ag_nw h4 1 fun o5 h6 =>
  ag_nn o5 <| ag_bW (call 7 [.inr o5] h6) fun h7 =>
  ag_pF h7 l0 7 1 (.inr o5) fun h8 =>
  ag_na h8 (ag_lit8 20) 106 (.inr none) fun o9 h10 =>
  ag_pF h10 l0 7 2 (.inr o9) fun h11 =>
  ag_na h11 (ag_lit16 128) 106 (.inr none) fun o12 h13 =>
  ag_pF h13 l0 7 3 (.inr o12) fun h14 =>
  ag_pF h14 l0 7 4 (.inl (ag_lit 1)) fun h15 =>
  ag_pF h15 l0 7 5 (.inl (ag_lit 1)) fun h16 =>
  ag_gR h16 l0 7 2 fun x17 =>
  ag_nw h16 9 fun o18 h19 =>
  ag_nn o18 <| ag_bW (call 60 [.inr o18, .inl (ag_lit 0), .inl (ag_lit (-1)), .inl (ag_lit 0), .inl (ag_lit 1)] h19) fun h20 =>
  ag_oK h20 o18 9 <| ag_xP h20 x17 106 (ag_lit 0) (.inr o18) fun h21 =>
  ag_at h21 l0 7 fun a22 _ => ag_bV (call 37 [.inr (some a22), .inl (ag_lit 0)] h21) fun h23 =>
  some (.inl none, h23)
set_option maxRecDepth 100000 in
set_option maxHeartbeats 4000000 in
theorem i34 (call : Nat → List ag_V → ag_H → ag_R) (B : ag_K4) (l0 : Option Nat) (h : ag_H) : ag_in 0 call B t34 0 [some (.inr l0)] [] h = f34 call  l0 h := by
  rfl
set_option maxRecDepth 100000 in
set_option maxHeartbeats 4000000 in
theorem r34 (d : Nat) (l0 : Option Nat) (h : ag_H) : ag_run gT (d + 1) 34 [.inr l0] h = f34 (ag_run gT d)  l0 h := by
  show ag_out 0 (ag_run gT d) t34 4000 0 [some (.inr l0)] [] h = _
  rw [ag_out_top, i34]
def f35_2 (call : Nat → List ag_V → ag_H → ag_R) (b2 : Option Nat → Int32 → ag_H → ag_R) (l0 : Option Nat) (l1 : Int32) (h : ag_H) : ag_R :=
  if (ag_lit16 128) ≤ l1 then
    some (.inl (some (.inl (ag_lit (-1)))), h)
  else
    ag_gR h l0 7 3 fun x1 =>
    ag_xR h x1 106 l1 fun x2 =>
    if x2 = none then
      some (.inl (some (.inl l1)), h)
    else
      b2 l0 (l1 + ag_lit 1) h
/-- NameSpaces$Server.newHandle()I -/
def f35 (call : Nat → List ag_V → ag_H → ag_R) (b2 : Option Nat → Int32 → ag_H → ag_R) (l0 : Option Nat) (h : ag_H) : ag_R :=
  f35_2 call b2 l0 (ag_lit 0) h
def g35 (call : Nat → List ag_V → ag_H → ag_R) : Nat → Option Nat → Int32 → ag_H → ag_R
  | 0 => fun _ _ _ => none
  | n + 1 => f35_2 call (g35 call n)
set_option maxRecDepth 100000 in
set_option maxHeartbeats 4000000 in
theorem i35_2 (call : Nat → List ag_V → ag_H → ag_R) (B : ag_K4) (l0 : Option Nat) (l1 : Int32) (h : ag_H) : ag_in 1 call B t35 2 [some (.inr l0), some (.inl l1)] [] h = f35_2 call (fun (l0 : Option Nat) (l1 : Int32) (h : ag_H) => B 2 [some (.inr l0), some (.inl l1)] [] h) l0 l1 h := by
  rfl
set_option maxRecDepth 100000 in
set_option maxHeartbeats 4000000 in
theorem i35 (call : Nat → List ag_V → ag_H → ag_R) (B : ag_K4) (l0 : Option Nat) (h : ag_H) : ag_in 1 call B t35 0 [some (.inr l0), none] [] h = f35 call (fun (l0 : Option Nat) (l1 : Int32) (h : ag_H) => B 2 [some (.inr l0), some (.inl l1)] [] h) l0 h := by
  rfl
set_option maxRecDepth 100000 in
set_option maxHeartbeats 4000000 in
theorem o35 (call : Nat → List ag_V → ag_H → ag_R) : ∀ n : Nat, (fun (l0 : Option Nat) (l1 : Int32) (h : ag_H) => (ag_out 1 call t35 n) 2 [some (.inr l0), some (.inl l1)] [] h) = g35 call n := by
  intro n
  induction n with
  | zero => rfl
  | succ n ih =>
    funext l0 l1 h
    show ag_in 1 call (ag_out 1 call t35 n) t35 2 [some (.inr l0), some (.inl l1)] [] h = f35_2 call (g35 call n) l0 l1 h
    rw [i35_2, ih]
set_option maxRecDepth 100000 in
set_option maxHeartbeats 4000000 in
theorem r35 (d : Nat) (l0 : Option Nat) (h : ag_H) : ag_run gT (d + 1) 35 [.inr l0] h = f35 (ag_run gT d) (g35 (ag_run gT d) 3999) l0 h := by
  show ag_out 1 (ag_run gT d) t35 4000 0 [some (.inr l0), none] [] h = _
  rw [ag_out_top, i35, o35]
def f36_23 (call : Nat → List ag_V → ag_H → ag_R) (b4 : Option Nat → Int32 → Int32 → ag_H → ag_R) (l0 : Option Nat) (l1 : Int32) (l2 : Int32) (h : ag_H) : ag_R :=
  b4 l0 l1 (l2 + ag_lit 1) h
def f36_4 (call : Nat → List ag_V → ag_H → ag_R) (b4 : Option Nat → Int32 → Int32 → ag_H → ag_R) (l0 : Option Nat) (l1 : Int32) (l2 : Int32) (h : ag_H) : ag_R :=
  if (ag_lit16 128) ≤ l2 then
    some (.inl (some (.inl l1)), h)
  else
    ag_gR h l0 7 3 fun x1 =>
    ag_xR h x1 106 l2 fun x2 =>
    if x2 = none then
      f36_23 call b4 l0 l1 l2 h
    else
      f36_23 call b4 l0 (l1 + ag_lit 1) l2 h
/-- NameSpaces$Server.handlesInUse()I -/
def f36 (call : Nat → List ag_V → ag_H → ag_R) (b4 : Option Nat → Int32 → Int32 → ag_H → ag_R) (l0 : Option Nat) (h : ag_H) : ag_R :=
  f36_4 call b4 l0 (ag_lit 0) (ag_lit 0) h
def g36 (call : Nat → List ag_V → ag_H → ag_R) : Nat → Option Nat → Int32 → Int32 → ag_H → ag_R
  | 0 => fun _ _ _ _ => none
  | n + 1 => f36_4 call (g36 call n)
set_option maxRecDepth 100000 in
set_option maxHeartbeats 4000000 in
theorem i36_4 (call : Nat → List ag_V → ag_H → ag_R) (B : ag_K4) (l0 : Option Nat) (l1 : Int32) (l2 : Int32) (h : ag_H) : ag_in 1 call B t36 4 [some (.inr l0), some (.inl l1), some (.inl l2)] [] h = f36_4 call (fun (l0 : Option Nat) (l1 : Int32) (l2 : Int32) (h : ag_H) => B 4 [some (.inr l0), some (.inl l1), some (.inl l2)] [] h) l0 l1 l2 h := by
  rfl
set_option maxRecDepth 100000 in
set_option maxHeartbeats 4000000 in
theorem i36 (call : Nat → List ag_V → ag_H → ag_R) (B : ag_K4) (l0 : Option Nat) (h : ag_H) : ag_in 1 call B t36 0 [some (.inr l0), none, none] [] h = f36 call (fun (l0 : Option Nat) (l1 : Int32) (l2 : Int32) (h : ag_H) => B 4 [some (.inr l0), some (.inl l1), some (.inl l2)] [] h) l0 h := by
  rfl
set_option maxRecDepth 100000 in
set_option maxHeartbeats 4000000 in
theorem o36 (call : Nat → List ag_V → ag_H → ag_R) : ∀ n : Nat, (fun (l0 : Option Nat) (l1 : Int32) (l2 : Int32) (h : ag_H) => (ag_out 1 call t36 n) 4 [some (.inr l0), some (.inl l1), some (.inl l2)] [] h) = g36 call n := by
  intro n
  induction n with
  | zero => rfl
  | succ n ih =>
    funext l0 l1 l2 h
    show ag_in 1 call (ag_out 1 call t36 n) t36 4 [some (.inr l0), some (.inl l1), some (.inl l2)] [] h = f36_4 call (g36 call n) l0 l1 l2 h
    rw [i36_4, ih]
set_option maxRecDepth 100000 in
set_option maxHeartbeats 4000000 in
theorem r36 (d : Nat) (l0 : Option Nat) (h : ag_H) : ag_run gT (d + 1) 36 [.inr l0] h = f36 (ag_run gT d) (g36 (ag_run gT d) 3999) l0 h := by
  show ag_out 1 (ag_run gT d) t36 4000 0 [some (.inr l0), none, none] [] h = _
  rw [ag_out_top, i36, o36]
/-- NameSpaces$Server.attach(I)V -/
def f37 (call : Nat → List ag_V → ag_H → ag_R)  (l0 : Option Nat) (l1 : Int32) (h : ag_H) : ag_R :=
  ag_at h l0 7 fun a1 _ => ag_bV (call 47 [.inr (some a1), .inl (ag_lit8 104), .inl l1] h) fun h2 =>
  ag_gR h2 l0 7 2 fun x3 =>
  ag_xR h2 x3 106 (ag_lit 0) fun x4 =>
  ag_at h2 l0 7 fun a5 _ => ag_bV (call 52 [.inr (some a5), .inl l1, .inr x4] h2) fun h6 =>
  ag_gR h6 l0 7 2 fun x7 =>
  ag_xR h6 x7 106 (ag_lit 0) fun x8 =>
  ag_at h6 l0 7 fun a9 _ => ag_bI (call 49 [.inr (some a9), .inl (ag_lit8 104), .inr x8] h6) fun x11 h10 =>
  some (.inl none, h10)
set_option maxRecDepth 100000 in
set_option maxHeartbeats 4000000 in
theorem i37 (call : Nat → List ag_V → ag_H → ag_R) (B : ag_K4) (l0 : Option Nat) (l1 : Int32) (h : ag_H) : ag_in 0 call B t37 0 [some (.inr l0), some (.inl l1)] [] h = f37 call  l0 l1 h := by
  rfl
set_option maxRecDepth 100000 in
set_option maxHeartbeats 4000000 in
theorem r37 (d : Nat) (l0 : Option Nat) (l1 : Int32) (h : ag_H) : ag_run gT (d + 1) 37 [.inr l0, .inl l1] h = f37 (ag_run gT d)  l0 l1 h := by
  show ag_out 0 (ag_run gT d) t37 4000 0 [some (.inr l0), some (.inl l1)] [] h = _
  rw [ag_out_top, i37]
/-- NameSpaces$Server.walkSame(I)I -/
def f38 (call : Nat → List ag_V → ag_H → ag_R)  (l0 : Option Nat) (l1 : Int32) (h : ag_H) : ag_R :=
  ag_at h l0 7 fun a1 _ => ag_bI (call 35 [.inr (some a1)] h) fun x3 h2 =>
  ag_at h2 l0 7 fun a4 _ => ag_bV (call 47 [.inr (some a4), .inl (ag_lit8 110), .inl l1] h2) fun h5 =>
  ag_gR h5 l0 7 0 fun x6 =>
  ag_at h5 x6 1 fun a7 _ => ag_bV (call 9 [.inr (some a7), .inl x3, .inl (ag_lit 4)] h5) fun h8 =>
  ag_gR h8 l0 7 0 fun x9 =>
  ag_at h8 x9 1 fun a10 _ => ag_bV (call 9 [.inr (some a10), .inl (ag_lit 0), .inl (ag_lit 2)] h8) fun h11 =>
  ag_at h11 l0 7 fun a12 _ => ag_bR (call 51 [.inr (some a12), .inl l1] h11) fun x14 h13 =>
  ag_at h13 l0 7 fun a15 _ => ag_bV (call 52 [.inr (some a15), .inl x3, .inr x14] h13) fun h16 =>
  ag_at h16 l0 7 fun a17 _ => ag_bI (call 48 [.inr (some a17), .inl (ag_lit8 110)] h16) fun x19 h18 =>
  some (.inl (some (.inl x3)), h18)
set_option maxRecDepth 100000 in
set_option maxHeartbeats 4000000 in
theorem i38 (call : Nat → List ag_V → ag_H → ag_R) (B : ag_K4) (l0 : Option Nat) (l1 : Int32) (h : ag_H) : ag_in 1 call B t38 0 [some (.inr l0), some (.inl l1), none] [] h = f38 call  l0 l1 h := by
  rfl
set_option maxRecDepth 100000 in
set_option maxHeartbeats 4000000 in
theorem r38 (d : Nat) (l0 : Option Nat) (l1 : Int32) (h : ag_H) : ag_run gT (d + 1) 38 [.inr l0, .inl l1] h = f38 (ag_run gT d)  l0 l1 h := by
  show ag_out 1 (ag_run gT d) t38 4000 0 [some (.inr l0), some (.inl l1), none] [] h = _
  rw [ag_out_top, i38]
def f39_63 (call : Nat → List ag_V → ag_H → ag_R)  (l0 : Option Nat) (h : ag_H) : ag_R :=
  ag_at h l0 7 fun a1 _ => ag_bI (call 50 [.inr (some a1), .inl (ag_lit8 110)] h) fun x3 h2 =>
  ag_isC x3 (some (.inl (some (.inl x3)), h2))
/-- NameSpaces$Server.walkName(IIC)C -/
def f39 (call : Nat → List ag_V → ag_H → ag_R)  (l0 : Option Nat) (l1 : Int32) (l2 : Int32) (l3 : Int32) (h : ag_H) : ag_R :=
  ag_at h l0 7 fun a1 _ => ag_bV (call 47 [.inr (some a1), .inl (ag_lit8 110), .inl l1] h) fun h2 =>
  ag_gR h2 l0 7 0 fun x3 =>
  ag_at h2 x3 1 fun a4 _ => ag_bV (call 9 [.inr (some a4), .inl l2, .inl (ag_lit 4)] h2) fun h5 =>
  ag_gR h5 l0 7 0 fun x6 =>
  ag_at h5 x6 1 fun a7 _ => ag_bV (call 9 [.inr (some a7), .inl (ag_lit 1), .inl (ag_lit 2)] h5) fun h8 =>
  ag_gR h8 l0 7 0 fun x9 =>
  ag_at h8 x9 1 fun a10 _ => ag_bV (call 9 [.inr (some a10), .inl (ag_lit 1), .inl (ag_lit 2)] h8) fun h11 =>
  ag_gR h11 l0 7 0 fun x12 =>
  ag_at h11 x12 1 fun a13 _ => ag_bV (call 9 [.inr (some a13), .inl l3, .inl (ag_lit 1)] h11) fun h14 =>
  ag_at h14 l0 7 fun a15 _ => ag_bR (call 51 [.inr (some a15), .inl l1] h14) fun x17 h16 =>
  if x17 = none then
    f39_63 call l0 h16
  else
    ag_gI h16 x17 9 7 fun x18 =>
    if x18 = (ag_lit 0) then
      ag_gI h16 x17 9 3 fun x19 =>
      if x19 = (ag_lit 0) then
        ag_at h16 l0 7 fun a31 _ => ag_bI (call 50 [.inr (some a31), .inl (ag_lit8 100)] h16) fun x33 h32 =>
        ag_isC x33 (some (.inl (some (.inl x33)), h32))
      else
        ag_at h16 l0 7 fun a20 _ => ag_bR (call 53 [.inr (some a20), .inr x17, .inl l3] h16) fun x22 h21 =>
        if x22 = none then
          ag_at h21 l0 7 fun a28 _ => ag_bI (call 50 [.inr (some a28), .inl (ag_lit8 110)] h21) fun x30 h29 =>
          ag_isC x30 (some (.inl (some (.inl x30)), h29))
        else
          ag_at h21 l0 7 fun a23 _ => ag_bV (call 52 [.inr (some a23), .inl l2, .inr x22] h21) fun h24 =>
          ag_at h24 l0 7 fun a25 _ => ag_bI (call 49 [.inr (some a25), .inl (ag_lit8 110), .inr x22] h24) fun x27 h26 =>
          ag_isC x27 (some (.inl (some (.inl x27)), h26))
    else
      f39_63 call l0 h16
set_option maxRecDepth 100000 in
set_option maxHeartbeats 4000000 in
theorem i39 (call : Nat → List ag_V → ag_H → ag_R) (B : ag_K4) (l0 : Option Nat) (l1 : Int32) (l2 : Int32) (l3 : Int32) (h : ag_H) : ag_in 3 call B t39 0 [some (.inr l0), some (.inl l1), some (.inl l2), some (.inl l3), none, none] [] h = f39 call  l0 l1 l2 l3 h := by
  rfl
set_option maxRecDepth 100000 in
set_option maxHeartbeats 4000000 in
theorem r39 (d : Nat) (l0 : Option Nat) (l1 : Int32) (l2 : Int32) (l3 : Int32) (h : ag_H) : ag_run gT (d + 1) 39 [.inr l0, .inl l1, .inl l2, .inl l3] h = f39 (ag_run gT d)  l0 l1 l2 l3 h := by
  show ag_out 3 (ag_run gT d) t39 4000 0 [some (.inr l0), some (.inl l1), some (.inl l2), some (.inl l3), none, none] [] h = _
  rw [ag_out_top, i39]
def f40_58 (call : Nat → List ag_V → ag_H → ag_R)  (l0 : Option Nat) (l3 : Option Nat) (h : ag_H) : ag_R :=
  ag_at h l0 7 fun a1 _ => ag_bI (call 49 [.inr (some a1), .inl (ag_lit8 112), .inr l3] h) fun x3 h2 =>
  ag_isC x3 (some (.inl (some (.inl x3)), h2))
def f40_33 (call : Nat → List ag_V → ag_H → ag_R)  (l0 : Option Nat) (h : ag_H) : ag_R :=
  ag_at h l0 7 fun a1 _ => ag_bI (call 50 [.inr (some a1), .inl (ag_lit8 110)] h) fun x3 h2 =>
  ag_isC x3 (some (.inl (some (.inl x3)), h2))
/-- NameSpaces$Server.openFile(II)C -/
def f40 (call : Nat → List ag_V → ag_H → ag_R)  (l0 : Option Nat) (l1 : Int32) (l2 : Int32) (h : ag_H) : ag_R :=
  ag_at h l0 7 fun a1 _ => ag_bV (call 47 [.inr (some a1), .inl (ag_lit8 112), .inl l1] h) fun h2 =>
  ag_gR h2 l0 7 0 fun x3 =>
  ag_at h2 x3 1 fun a4 _ => ag_bV (call 9 [.inr (some a4), .inl l2, .inl (ag_lit 1)] h2) fun h5 =>
  ag_at h5 l0 7 fun a6 _ => ag_bR (call 51 [.inr (some a6), .inl l1] h5) fun x8 h7 =>
  if x8 = none then
    f40_33 call l0 h7
  else
    ag_gI h7 x8 9 7 fun x9 =>
    if x9 = (ag_lit 0) then
      ag_gI h7 x8 9 3 fun x10 =>
      if x10 = (ag_lit 0) then
        f40_58 call l0 x8 h7
      else
        if l2 = (ag_lit 0) then
          f40_58 call l0 x8 h7
        else
          ag_at h7 l0 7 fun a11 _ => ag_bI (call 50 [.inr (some a11), .inl (ag_lit8 112)] h7) fun x13 h12 =>
          ag_isC x13 (some (.inl (some (.inl x13)), h12))
    else
      f40_33 call l0 h7
set_option maxRecDepth 100000 in
set_option maxHeartbeats 4000000 in
theorem i40 (call : Nat → List ag_V → ag_H → ag_R) (B : ag_K4) (l0 : Option Nat) (l1 : Int32) (l2 : Int32) (h : ag_H) : ag_in 3 call B t40 0 [some (.inr l0), some (.inl l1), some (.inl l2), none] [] h = f40 call  l0 l1 l2 h := by
  rfl
set_option maxRecDepth 100000 in
set_option maxHeartbeats 4000000 in
theorem r40 (d : Nat) (l0 : Option Nat) (l1 : Int32) (l2 : Int32) (h : ag_H) : ag_run gT (d + 1) 40 [.inr l0, .inl l1, .inl l2] h = f40 (ag_run gT d)  l0 l1 l2 h := by
  show ag_out 3 (ag_run gT d) t40 4000 0 [some (.inr l0), some (.inl l1), some (.inl l2), none] [] h = _
  rw [ag_out_top, i40]
def f41_62 (call : Nat → List ag_V → ag_H → ag_R)  (l0 : Option Nat) (h : ag_H) : ag_R :=
  ag_at h l0 7 fun a1 _ => ag_bI (call 50 [.inr (some a1), .inl (ag_lit8 110)] h) fun x3 h2 =>
  ag_isC x3 (some (.inl (some (.inl x3)), h2))
def f41_38 (call : Nat → List ag_V → ag_H → ag_R)  (l0 : Option Nat) (l1 : Int32) (l2 : Int32) (l3 : Int32) (s0 : Option Nat) (s1 : Int32) (h : ag_H) : ag_R :=
  ag_at h s0 1 fun a1 _ => ag_bV (call 9 [.inr (some a1), .inl s1, .inl (ag_lit 1)] h) fun h2 =>
  ag_at h2 l0 7 fun a3 _ => ag_bR (call 51 [.inr (some a3), .inl l1] h2) fun x5 h4 =>
  if x5 = none then
    f41_62 call l0 h4
  else
    ag_gI h4 x5 9 7 fun x6 =>
    if x6 = (ag_lit 0) then
      ag_gI h4 x5 9 3 fun x7 =>
      if x7 = (ag_lit 0) then
        ag_at h4 l0 7 fun a35 _ => ag_bI (call 50 [.inr (some a35), .inl (ag_lit8 100)] h4) fun x37 h36 =>
        ag_isC x37 (some (.inl (some (.inl x37)), h36))
      else
        ag_at h4 l0 7 fun a8 _ => ag_bR (call 53 [.inr (some a8), .inr x5, .inl l2] h4) fun x10 h9 =>
        if x10 = none then
          ag_gI h9 l0 7 4 fun x11 =>
          if x11 < (ag_lit8 20) then
            ag_nw h9 9 fun o12 h13 =>
            ag_gI h13 l0 7 5 fun x14 =>
            ag_gI h13 x5 9 0 fun x15 =>
            ag_nn o12 <| ag_bW (call 60 [.inr o12, .inl x14, .inl x15, .inl l2, .inl l3] h13) fun h16 =>
            ag_gR h16 l0 7 2 fun x17 =>
            ag_gI h16 l0 7 4 fun x18 =>
            ag_oK h16 o12 9 <| ag_xP h16 x17 106 x18 (.inr o12) fun h19 =>
            ag_gI h19 l0 7 4 fun x20 =>
            ag_pF h19 l0 7 4 (.inl (x20 + (ag_lit 1))) fun h21 =>
            ag_gI h21 l0 7 5 fun x22 =>
            ag_pF h21 l0 7 5 (.inl (x22 + (ag_lit 1))) fun h23 =>
            ag_at h23 l0 7 fun a24 _ => ag_bV (call 52 [.inr (some a24), .inl l1, .inr o12] h23) fun h25 =>
            ag_at h25 l0 7 fun a26 _ => ag_bI (call 49 [.inr (some a26), .inl (ag_lit8 114), .inr o12] h25) fun x28 h27 =>
            ag_isC x28 (some (.inl (some (.inl x28)), h27))
          else
            ag_at h9 l0 7 fun a29 _ => ag_bI (call 50 [.inr (some a29), .inl (ag_lit8 102)] h9) fun x31 h30 =>
            ag_isC x31 (some (.inl (some (.inl x31)), h30))
        else
          ag_at h9 l0 7 fun a32 _ => ag_bI (call 50 [.inr (some a32), .inl (ag_lit8 120)] h9) fun x34 h33 =>
          ag_isC x34 (some (.inl (some (.inl x34)), h33))
    else
      f41_62 call l0 h4
/-- NameSpaces$Server.makeFile(ICZ)C -/
def f41 (call : Nat → List ag_V → ag_H → ag_R)  (l0 : Option Nat) (l1 : Int32) (l2 : Int32) (l3 : Int32) (h : ag_H) : ag_R :=
  ag_at h l0 7 fun a1 _ => ag_bV (call 47 [.inr (some a1), .inl (ag_lit8 114), .inl l1] h) fun h2 =>
  ag_gR h2 l0 7 0 fun x3 =>
  ag_at h2 x3 1 fun a4 _ => ag_bV (call 9 [.inr (some a4), .inl (ag_lit 1), .inl (ag_lit 2)] h2) fun h5 =>
  ag_gR h5 l0 7 0 fun x6 =>
  ag_at h5 x6 1 fun a7 _ => ag_bV (call 9 [.inr (some a7), .inl l2, .inl (ag_lit 1)] h5) fun h8 =>
  ag_gR h8 l0 7 0 fun x9 =>
  if l3 = (ag_lit 0) then
    f41_38 call l0 l1 l2 l3 x9 (ag_lit 0) h8
  else
    f41_38 call l0 l1 l2 l3 x9 (ag_lit 1) h8
set_option maxRecDepth 100000 in
set_option maxHeartbeats 4000000 in
theorem i41 (call : Nat → List ag_V → ag_H → ag_R) (B : ag_K4) (l0 : Option Nat) (l1 : Int32) (l2 : Int32) (l3 : Int32) (h : ag_H) : ag_in 3 call B t41 0 [some (.inr l0), some (.inl l1), some (.inl l2), some (.inl l3), none, none] [] h = f41 call  l0 l1 l2 l3 h := by
  rfl
set_option maxRecDepth 100000 in
set_option maxHeartbeats 4000000 in
theorem r41 (d : Nat) (l0 : Option Nat) (l1 : Int32) (l2 : Int32) (l3 : Int32) (h : ag_H) : ag_run gT (d + 1) 41 [.inr l0, .inl l1, .inl l2, .inl l3] h = f41 (ag_run gT d)  l0 l1 l2 l3 h := by
  show ag_out 3 (ag_run gT d) t41 4000 0 [some (.inr l0), some (.inl l1), some (.inl l2), some (.inl l3), none, none] [] h = _
  rw [ag_out_top, i41]
def f42_105 (call : Nat → List ag_V → ag_H → ag_R)   (h : ag_H) : ag_R :=
  ag_isC (ag_lit 0) (some (.inl (some (.inl (ag_lit 0))), h))
def f42_85 (call : Nat → List ag_V → ag_H → ag_R)  (l0 : Option Nat) (l4 : Int32) (s0 : Option Nat) (s1 : Int32) (h : ag_H) : ag_R :=
  ag_at h s0 1 fun a1 _ => ag_bV (call 9 [.inr (some a1), .inl s1, .inl (ag_lit 2)] h) fun h2 =>
  if l4 = (ag_lit (-1)) then
    f42_105 call h2
  else
    ag_gR h2 l0 7 1 fun x3 =>
    ag_at h2 x3 1 fun a4 _ => ag_bV (call 9 [.inr (some a4), .inl l4, .inl (ag_lit 1)] h2) fun h5 =>
    f42_105 call h5
def f42_61 (call : Nat → List ag_V → ag_H → ag_R)  (l0 : Option Nat) (s0 : Int32) (h : ag_H) : ag_R :=
  ag_at h l0 7 fun a1 _ => ag_bI (call 48 [.inr (some a1), .inl (ag_lit8 116)] h) fun x3 h2 =>
  ag_gR h2 l0 7 1 fun x4 =>
  if s0 = (ag_lit (-1)) then
    f42_85 call l0 s0 x4 (ag_lit 0) h2
  else
    f42_85 call l0 s0 x4 (ag_lit 1) h2
def f42_33 (call : Nat → List ag_V → ag_H → ag_R)  (l0 : Option Nat) (h : ag_H) : ag_R :=
  ag_at h l0 7 fun a1 _ => ag_bI (call 50 [.inr (some a1), .inl (ag_lit8 110)] h) fun x3 h2 =>
  ag_isC x3 (some (.inl (some (.inl x3)), h2))
/-- NameSpaces$Server.tellByte(II)C -/
def f42 (call : Nat → List ag_V → ag_H → ag_R)  (l0 : Option Nat) (l1 : Int32) (l2 : Int32) (h : ag_H) : ag_R :=
  ag_at h l0 7 fun a1 _ => ag_bV (call 47 [.inr (some a1), .inl (ag_lit8 116), .inl l1] h) fun h2 =>
  ag_gR h2 l0 7 0 fun x3 =>
  ag_at h2 x3 1 fun a4 _ => ag_bV (call 9 [.inr (some a4), .inl l2, .inl (ag_lit 4)] h2) fun h5 =>
  ag_at h5 l0 7 fun a6 _ => ag_bR (call 51 [.inr (some a6), .inl l1] h5) fun x8 h7 =>
  if x8 = none then
    f42_33 call l0 h7
  else
    ag_gI h7 x8 9 7 fun x9 =>
    if x9 = (ag_lit 0) then
      ag_gI h7 x8 9 3 fun x10 =>
      if x10 = (ag_lit 0) then
        ag_at h7 x8 9 fun a11 _ => ag_bI (call 61 [.inr (some a11), .inl l2] h7) fun x13 h12 =>
        f42_61 call l0 x13 h12
      else
        ag_at h7 l0 7 fun a14 _ => ag_bI (call 54 [.inr (some a14), .inr x8, .inl l2] h7) fun x16 h15 =>
        f42_61 call l0 x16 h15
    else
      f42_33 call l0 h7
set_option maxRecDepth 100000 in
set_option maxHeartbeats 4000000 in
theorem i42 (call : Nat → List ag_V → ag_H → ag_R) (B : ag_K4) (l0 : Option Nat) (l1 : Int32) (l2 : Int32) (h : ag_H) : ag_in 3 call B t42 0 [some (.inr l0), some (.inl l1), some (.inl l2), none, none] [] h = f42 call  l0 l1 l2 h := by
  rfl
set_option maxRecDepth 100000 in
set_option maxHeartbeats 4000000 in
theorem r42 (d : Nat) (l0 : Option Nat) (l1 : Int32) (l2 : Int32) (h : ag_H) : ag_run gT (d + 1) 42 [.inr l0, .inl l1, .inl l2] h = f42 (ag_run gT d)  l0 l1 l2 h := by
  show ag_out 3 (ag_run gT d) t42 4000 0 [some (.inr l0), some (.inl l1), some (.inl l2), none, none] [] h = _
  rw [ag_out_top, i42]
def f43_66 (call : Nat → List ag_V → ag_H → ag_R)  (l0 : Option Nat) (h : ag_H) : ag_R :=
  ag_at h l0 7 fun a1 _ => ag_bI (call 50 [.inr (some a1), .inl (ag_lit8 102)] h) fun x3 h2 =>
  ag_isC x3 (some (.inl (some (.inl x3)), h2))
def f43_45 (call : Nat → List ag_V → ag_H → ag_R)  (l0 : Option Nat) (h : ag_H) : ag_R :=
  ag_at h l0 7 fun a1 _ => ag_bI (call 50 [.inr (some a1), .inl (ag_lit8 110)] h) fun x3 h2 =>
  ag_isC x3 (some (.inl (some (.inl x3)), h2))
/-- NameSpaces$Server.putByte(III)C -/
def f43 (call : Nat → List ag_V → ag_H → ag_R)  (l0 : Option Nat) (l1 : Int32) (l2 : Int32) (l3 : Int32) (h : ag_H) : ag_R :=
  ag_at h l0 7 fun a1 _ => ag_bV (call 47 [.inr (some a1), .inl (ag_lit8 118), .inl l1] h) fun h2 =>
  ag_gR h2 l0 7 0 fun x3 =>
  ag_at h2 x3 1 fun a4 _ => ag_bV (call 9 [.inr (some a4), .inl l2, .inl (ag_lit 4)] h2) fun h5 =>
  ag_gR h5 l0 7 0 fun x6 =>
  ag_at h5 x6 1 fun a7 _ => ag_bV (call 9 [.inr (some a7), .inl l3, .inl (ag_lit 1)] h5) fun h8 =>
  ag_at h8 l0 7 fun a9 _ => ag_bR (call 51 [.inr (some a9), .inl l1] h8) fun x11 h10 =>
  if x11 = none then
    f43_45 call l0 h10
  else
    ag_gI h10 x11 9 7 fun x12 =>
    if x12 = (ag_lit 0) then
      if l2 < (ag_lit 0) then
        f43_66 call l0 h10
      else
        ag_gR h10 x11 9 4 fun x13 =>
        ag_xN h10 x13 100 fun x14 =>
        if l2 < x14 then
          ag_gR h10 x11 9 4 fun x15 =>
          ag_xP h10 x15 100 l2 (.inl l3) fun h16 =>
          ag_gI h16 x11 9 5 fun x17 =>
          ag_bI (call 175 [.inl x17, .inl (l2 + (ag_lit 1))] h16) fun x19 h18 =>
          ag_pF h18 x11 9 5 (.inl x19) fun h20 =>
          ag_gI h20 x11 9 6 fun x21 =>
          ag_pF h20 x11 9 6 (.inl (x21 + (ag_lit 1))) fun h22 =>
          ag_at h22 l0 7 fun a23 _ => ag_bI (call 48 [.inr (some a23), .inl (ag_lit8 118)] h22) fun x25 h24 =>
          ag_gR h24 l0 7 1 fun x26 =>
          ag_gI h24 x11 9 5 fun x27 =>
          ag_at h24 x26 1 fun a28 _ => ag_bV (call 9 [.inr (some a28), .inl x27, .inl (ag_lit 4)] h24) fun h29 =>
          ag_isC (ag_lit 0) (some (.inl (some (.inl (ag_lit 0))), h29))
        else
          f43_66 call l0 h10
    else
      f43_45 call l0 h10
set_option maxRecDepth 100000 in
set_option maxHeartbeats 4000000 in
theorem i43 (call : Nat → List ag_V → ag_H → ag_R) (B : ag_K4) (l0 : Option Nat) (l1 : Int32) (l2 : Int32) (l3 : Int32) (h : ag_H) : ag_in 3 call B t43 0 [some (.inr l0), some (.inl l1), some (.inl l2), some (.inl l3), none] [] h = f43 call  l0 l1 l2 l3 h := by
  rfl
set_option maxRecDepth 100000 in
set_option maxHeartbeats 4000000 in
theorem r43 (d : Nat) (l0 : Option Nat) (l1 : Int32) (l2 : Int32) (l3 : Int32) (h : ag_H) : ag_run gT (d + 1) 43 [.inr l0, .inl l1, .inl l2, .inl l3] h = f43 (ag_run gT d)  l0 l1 l2 l3 h := by
  show ag_out 3 (ag_run gT d) t43 4000 0 [some (.inr l0), some (.inl l1), some (.inl l2), some (.inl l3), none] [] h = _
  rw [ag_out_top, i43]
/-- NameSpaces$Server.clunk(I)V -/
def f44 (call : Nat → List ag_V → ag_H → ag_R)  (l0 : Option Nat) (l1 : Int32) (h : ag_H) : ag_R :=
  ag_at h l0 7 fun a1 _ => ag_bV (call 47 [.inr (some a1), .inl (ag_lit8 120), .inl l1] h) fun h2 =>
  ag_at h2 l0 7 fun a3 _ => ag_bV (call 52 [.inr (some a3), .inl l1, .inr none] h2) fun h4 =>
  ag_at h4 l0 7 fun a5 _ => ag_bI (call 48 [.inr (some a5), .inl (ag_lit8 120)] h4) fun x7 h6 =>
  some (.inl none, h6)
set_option maxRecDepth 100000 in
set_option maxHeartbeats 4000000 in
theorem i44 (call : Nat → List ag_V → ag_H → ag_R) (B : ag_K4) (l0 : Option Nat) (l1 : Int32) (h : ag_H) : ag_in 0 call B t44 0 [some (.inr l0), some (.inl l1)] [] h = f44 call  l0 l1 h := by
  rfl
set_option maxRecDepth 100000 in
set_option maxHeartbeats 4000000 in
theorem r44 (d : Nat) (l0 : Option Nat) (l1 : Int32) (h : ag_H) : ag_run gT (d + 1) 44 [.inr l0, .inl l1] h = f44 (ag_run gT d)  l0 l1 h := by
  show ag_out 0 (ag_run gT d) t44 4000 0 [some (.inr l0), some (.inl l1)] [] h = _
  rw [ag_out_top, i44]
def f45_54 (call : Nat → List ag_V → ag_H → ag_R)  (l0 : Option Nat) (h : ag_H) : ag_R :=
  ag_at h l0 7 fun a1 _ => ag_bI (call 50 [.inr (some a1), .inl (ag_lit8 112)] h) fun x3 h2 =>
  ag_isC x3 (some (.inl (some (.inl x3)), h2))
def f45_30 (call : Nat → List ag_V → ag_H → ag_R)  (l0 : Option Nat) (h : ag_H) : ag_R :=
  ag_at h l0 7 fun a1 _ => ag_bI (call 50 [.inr (some a1), .inl (ag_lit8 110)] h) fun x3 h2 =>
  ag_isC x3 (some (.inl (some (.inl x3)), h2))
/-- NameSpaces$Server.dropFile(I)C -/
def f45 (call : Nat → List ag_V → ag_H → ag_R)  (l0 : Option Nat) (l1 : Int32) (h : ag_H) : ag_R :=
  ag_at h l0 7 fun a1 _ => ag_bV (call 47 [.inr (some a1), .inl (ag_lit8 122), .inl l1] h) fun h2 =>
  ag_at h2 l0 7 fun a3 _ => ag_bR (call 51 [.inr (some a3), .inl l1] h2) fun x5 h4 =>
  ag_at h4 l0 7 fun a6 _ => ag_bV (call 52 [.inr (some a6), .inl l1, .inr none] h4) fun h7 =>
  if x5 = none then
    f45_30 call l0 h7
  else
    ag_gI h7 x5 9 7 fun x8 =>
    if x8 = (ag_lit 0) then
      ag_gI h7 x5 9 0 fun x9 =>
      if x9 = (ag_lit 0) then
        f45_54 call l0 h7
      else
        ag_at h7 l0 7 fun a10 _ => ag_bI (call 54 [.inr (some a10), .inr x5, .inl (ag_lit 0)] h7) fun x12 h11 =>
        if x12 = (ag_lit (-1)) then
          ag_isB (ag_lit 1) <| ag_pF h11 x5 9 7 (.inl (ag_lit 1)) fun h13 =>
          ag_gI h13 x5 9 0 fun x14 =>
          ag_at h13 l0 7 fun a15 _ => ag_bV (call 55 [.inr (some a15), .inl x14] h13) fun h16 =>
          ag_at h16 l0 7 fun a17 _ => ag_bI (call 48 [.inr (some a17), .inl (ag_lit8 122)] h16) fun x19 h18 =>
          ag_isC x19 (some (.inl (some (.inl x19)), h18))
        else
          f45_54 call l0 h11
    else
      f45_30 call l0 h7
set_option maxRecDepth 100000 in
set_option maxHeartbeats 4000000 in
theorem i45 (call : Nat → List ag_V → ag_H → ag_R) (B : ag_K4) (l0 : Option Nat) (l1 : Int32) (h : ag_H) : ag_in 3 call B t45 0 [some (.inr l0), some (.inl l1), none] [] h = f45 call  l0 l1 h := by
  rfl
set_option maxRecDepth 100000 in
set_option maxHeartbeats 4000000 in
theorem r45 (d : Nat) (l0 : Option Nat) (l1 : Int32) (h : ag_H) : ag_run gT (d + 1) 45 [.inr l0, .inl l1] h = f45 (ag_run gT d)  l0 l1 h := by
  show ag_out 3 (ag_run gT d) t45 4000 0 [some (.inr l0), some (.inl l1), none] [] h = _
  rw [ag_out_top, i45]
def f46_24 (call : Nat → List ag_V → ag_H → ag_R)  (l0 : Option Nat) (h : ag_H) : ag_R :=
  ag_at h l0 7 fun a1 _ => ag_bI (call 50 [.inr (some a1), .inl (ag_lit8 110)] h) fun x3 h2 =>
  ag_isC x3 (some (.inl (some (.inl x3)), h2))
/-- NameSpaces$Server.tellFile(I)C -/
def f46 (call : Nat → List ag_V → ag_H → ag_R)  (l0 : Option Nat) (l1 : Int32) (h : ag_H) : ag_R :=
  ag_at h l0 7 fun a1 _ => ag_bV (call 47 [.inr (some a1), .inl (ag_lit8 124), .inl l1] h) fun h2 =>
  ag_at h2 l0 7 fun a3 _ => ag_bR (call 51 [.inr (some a3), .inl l1] h2) fun x5 h4 =>
  if x5 = none then
    f46_24 call l0 h4
  else
    ag_gI h4 x5 9 7 fun x6 =>
    if x6 = (ag_lit 0) then
      ag_at h4 l0 7 fun a7 _ => ag_bI (call 49 [.inr (some a7), .inl (ag_lit8 124), .inr x5] h4) fun x9 h8 =>
      ag_isC x9 (some (.inl (some (.inl x9)), h8))
    else
      f46_24 call l0 h4
set_option maxRecDepth 100000 in
set_option maxHeartbeats 4000000 in
theorem i46 (call : Nat → List ag_V → ag_H → ag_R) (B : ag_K4) (l0 : Option Nat) (l1 : Int32) (h : ag_H) : ag_in 3 call B t46 0 [some (.inr l0), some (.inl l1), none] [] h = f46 call  l0 l1 h := by
  rfl
set_option maxRecDepth 100000 in
set_option maxHeartbeats 4000000 in
theorem r46 (d : Nat) (l0 : Option Nat) (l1 : Int32) (h : ag_H) : ag_run gT (d + 1) 46 [.inr l0, .inl l1] h = f46 (ag_run gT d)  l0 l1 h := by
  show ag_out 3 (ag_run gT d) t46 4000 0 [some (.inr l0), some (.inl l1), none] [] h = _
  rw [ag_out_top, i46]
/-- NameSpaces$Server.ask(II)V -/
def f47 (call : Nat → List ag_V → ag_H → ag_R)  (l0 : Option Nat) (l1 : Int32) (l2 : Int32) (h : ag_H) : ag_R :=
  ag_gR h l0 7 0 fun x1 =>
  ag_at h x1 1 fun a2 _ => ag_bV (call 8 [.inr (some a2), .inl l1] h) fun h3 =>
  ag_gR h3 l0 7 0 fun x4 =>
  ag_at h3 x4 1 fun a5 _ => ag_bV (call 9 [.inr (some a5), .inl l2, .inl (ag_lit 4)] h3) fun h6 =>
  some (.inl none, h6)
set_option maxRecDepth 100000 in
set_option maxHeartbeats 4000000 in
theorem i47 (call : Nat → List ag_V → ag_H → ag_R) (B : ag_K4) (l0 : Option Nat) (l1 : Int32) (l2 : Int32) (h : ag_H) : ag_in 0 call B t47 0 [some (.inr l0), some (.inl l1), some (.inl l2)] [] h = f47 call  l0 l1 l2 h := by
  rfl
set_option maxRecDepth 100000 in
set_option maxHeartbeats 4000000 in
theorem r47 (d : Nat) (l0 : Option Nat) (l1 : Int32) (l2 : Int32) (h : ag_H) : ag_run gT (d + 1) 47 [.inr l0, .inl l1, .inl l2] h = f47 (ag_run gT d)  l0 l1 l2 h := by
  show ag_out 0 (ag_run gT d) t47 4000 0 [some (.inr l0), some (.inl l1), some (.inl l2)] [] h = _
  rw [ag_out_top, i47]
/-- NameSpaces$Server.agree(I)C -/
def f48 (call : Nat → List ag_V → ag_H → ag_R)  (l0 : Option Nat) (l1 : Int32) (h : ag_H) : ag_R :=
  ag_gR h l0 7 1 fun x1 =>
  ag_at h x1 1 fun a2 _ => ag_bV (call 8 [.inr (some a2), .inl (l1 + (ag_lit 1))] h) fun h3 =>
  ag_isC (ag_lit 0) (some (.inl (some (.inl (ag_lit 0))), h3))
set_option maxRecDepth 100000 in
set_option maxHeartbeats 4000000 in
theorem i48 (call : Nat → List ag_V → ag_H → ag_R) (B : ag_K4) (l0 : Option Nat) (l1 : Int32) (h : ag_H) : ag_in 3 call B t48 0 [some (.inr l0), some (.inl l1)] [] h = f48 call  l0 l1 h := by
  rfl
set_option maxRecDepth 100000 in
set_option maxHeartbeats 4000000 in
theorem r48 (d : Nat) (l0 : Option Nat) (l1 : Int32) (h : ag_H) : ag_run gT (d + 1) 48 [.inr l0, .inl l1] h = f48 (ag_run gT d)  l0 l1 h := by
  show ag_out 3 (ag_run gT d) t48 4000 0 [some (.inr l0), some (.inl l1)] [] h = _
  rw [ag_out_top, i48]
def f49_26 (call : Nat → List ag_V → ag_H → ag_R)  (l0 : Option Nat) (l2 : Option Nat) (s0 : Option Nat) (s1 : Int32) (h : ag_H) : ag_R :=
  ag_at h s0 1 fun a1 _ => ag_bV (call 9 [.inr (some a1), .inl s1, .inl (ag_lit 1)] h) fun h2 =>
  ag_gR h2 l0 7 1 fun x3 =>
  ag_gI h2 l2 9 6 fun x4 =>
  ag_at h2 x3 1 fun a5 _ => ag_bV (call 9 [.inr (some a5), .inl x4, .inl (ag_lit 4)] h2) fun h6 =>
  ag_gR h6 l0 7 1 fun x7 =>
  ag_gI h6 l2 9 0 fun x8 =>
  ag_at h6 x7 1 fun a9 _ => ag_bV (call 9 [.inr (some a9), .inl x8, .inl (ag_lit 4)] h6) fun h10 =>
  ag_isC (ag_lit 0) (some (.inl (some (.inl (ag_lit 0))), h10))
/-- NameSpaces$Server.describe(ILNameSpaces$TreeFile;)C -/
def f49 (call : Nat → List ag_V → ag_H → ag_R)  (l0 : Option Nat) (l1 : Int32) (l2 : Option Nat) (h : ag_H) : ag_R :=
  ag_gR h l0 7 1 fun x1 =>
  ag_at h x1 1 fun a2 _ => ag_bV (call 8 [.inr (some a2), .inl (l1 + (ag_lit 1))] h) fun h3 =>
  ag_gR h3 l0 7 1 fun x4 =>
  ag_gI h3 l2 9 3 fun x5 =>
  if x5 = (ag_lit 0) then
    f49_26 call l0 l2 x4 (ag_lit 0) h3
  else
    f49_26 call l0 l2 x4 (ag_lit 1) h3
set_option maxRecDepth 100000 in
set_option maxHeartbeats 4000000 in
theorem i49 (call : Nat → List ag_V → ag_H → ag_R) (B : ag_K4) (l0 : Option Nat) (l1 : Int32) (l2 : Option Nat) (h : ag_H) : ag_in 3 call B t49 0 [some (.inr l0), some (.inl l1), some (.inr l2)] [] h = f49 call  l0 l1 l2 h := by
  rfl
set_option maxRecDepth 100000 in
set_option maxHeartbeats 4000000 in
theorem r49 (d : Nat) (l0 : Option Nat) (l1 : Int32) (l2 : Option Nat) (h : ag_H) : ag_run gT (d + 1) 49 [.inr l0, .inl l1, .inr l2] h = f49 (ag_run gT d)  l0 l1 l2 h := by
  show ag_out 3 (ag_run gT d) t49 4000 0 [some (.inr l0), some (.inl l1), some (.inr l2)] [] h = _
  rw [ag_out_top, i49]
/-- NameSpaces$Server.refuse(C)C -/
def f50 (call : Nat → List ag_V → ag_H → ag_R)  (l0 : Option Nat) (l1 : Int32) (h : ag_H) : ag_R :=
  ag_gR h l0 7 1 fun x1 =>
  ag_at h x1 1 fun a2 _ => ag_bV (call 8 [.inr (some a2), .inl (ag_lit8 107)] h) fun h3 =>
  ag_gR h3 l0 7 1 fun x4 =>
  ag_at h3 x4 1 fun a5 _ => ag_bV (call 9 [.inr (some a5), .inl (ag_lit 1), .inl (ag_lit 2)] h3) fun h6 =>
  ag_gR h6 l0 7 1 fun x7 =>
  ag_at h6 x7 1 fun a8 _ => ag_bV (call 9 [.inr (some a8), .inl l1, .inl (ag_lit 1)] h6) fun h9 =>
  ag_isC l1 (some (.inl (some (.inl l1)), h9))
set_option maxRecDepth 100000 in
set_option maxHeartbeats 4000000 in
theorem i50 (call : Nat → List ag_V → ag_H → ag_R) (B : ag_K4) (l0 : Option Nat) (l1 : Int32) (h : ag_H) : ag_in 3 call B t50 0 [some (.inr l0), some (.inl l1)] [] h = f50 call  l0 l1 h := by
  rfl
set_option maxRecDepth 100000 in
set_option maxHeartbeats 4000000 in
theorem r50 (d : Nat) (l0 : Option Nat) (l1 : Int32) (h : ag_H) : ag_run gT (d + 1) 50 [.inr l0, .inl l1] h = f50 (ag_run gT d)  l0 l1 h := by
  show ag_out 3 (ag_run gT d) t50 4000 0 [some (.inr l0), some (.inl l1)] [] h = _
  rw [ag_out_top, i50]
def f51_21 (call : Nat → List ag_V → ag_H → ag_R)  (s0 : Option Nat) (h : ag_H) : ag_R :=
  some (.inl (some (.inr s0)), h)
def f51_20 (call : Nat → List ag_V → ag_H → ag_R)   (h : ag_H) : ag_R :=
  f51_21 call none h
/-- NameSpaces$Server.fileOf(I)LNameSpaces$TreeFile; -/
def f51 (call : Nat → List ag_V → ag_H → ag_R)  (l0 : Option Nat) (l1 : Int32) (h : ag_H) : ag_R :=
  if l1 < (ag_lit 0) then
    f51_20 call h
  else
    if (ag_lit16 128) ≤ l1 then
      f51_20 call h
    else
      ag_gR h l0 7 3 fun x1 =>
      ag_xR h x1 106 l1 fun x2 =>
      f51_21 call x2 h
set_option maxRecDepth 100000 in
set_option maxHeartbeats 4000000 in
theorem i51 (call : Nat → List ag_V → ag_H → ag_R) (B : ag_K4) (l0 : Option Nat) (l1 : Int32) (h : ag_H) : ag_in 2 call B t51 0 [some (.inr l0), some (.inl l1)] [] h = f51 call  l0 l1 h := by
  rfl
set_option maxRecDepth 100000 in
set_option maxHeartbeats 4000000 in
theorem r51 (d : Nat) (l0 : Option Nat) (l1 : Int32) (h : ag_H) : ag_run gT (d + 1) 51 [.inr l0, .inl l1] h = f51 (ag_run gT d)  l0 l1 h := by
  show ag_out 2 (ag_run gT d) t51 4000 0 [some (.inr l0), some (.inl l1)] [] h = _
  rw [ag_out_top, i51]
def f52_18 (call : Nat → List ag_V → ag_H → ag_R)   (h : ag_H) : ag_R :=
  some (.inl none, h)
/-- NameSpaces$Server.stand(ILNameSpaces$TreeFile;)V -/
def f52 (call : Nat → List ag_V → ag_H → ag_R)  (l0 : Option Nat) (l1 : Int32) (l2 : Option Nat) (h : ag_H) : ag_R :=
  if l1 < (ag_lit 0) then
    f52_18 call h
  else
    if (ag_lit16 128) ≤ l1 then
      f52_18 call h
    else
      ag_gR h l0 7 3 fun x1 =>
      ag_oK h l2 9 <| ag_xP h x1 106 l1 (.inr l2) fun h2 =>
      f52_18 call h2
set_option maxRecDepth 100000 in
set_option maxHeartbeats 4000000 in
theorem i52 (call : Nat → List ag_V → ag_H → ag_R) (B : ag_K4) (l0 : Option Nat) (l1 : Int32) (l2 : Option Nat) (h : ag_H) : ag_in 0 call B t52 0 [some (.inr l0), some (.inl l1), some (.inr l2)] [] h = f52 call  l0 l1 l2 h := by
  rfl
set_option maxRecDepth 100000 in
set_option maxHeartbeats 4000000 in
theorem r52 (d : Nat) (l0 : Option Nat) (l1 : Int32) (l2 : Option Nat) (h : ag_H) : ag_run gT (d + 1) 52 [.inr l0, .inl l1, .inr l2] h = f52 (ag_run gT d)  l0 l1 l2 h := by
  show ag_out 0 (ag_run gT d) t52 4000 0 [some (.inr l0), some (.inl l1), some (.inr l2)] [] h = _
  rw [ag_out_top, i52]
def f53_46 (call : Nat → List ag_V → ag_H → ag_R) (b2 : Option Nat → Option Nat → Int32 → Int32 → ag_H → ag_R) (l0 : Option Nat) (l1 : Option Nat) (l2 : Int32) (l3 : Int32) (h : ag_H) : ag_R :=
  b2 l0 l1 l2 (l3 + ag_lit 1) h
def f53_2 (call : Nat → List ag_V → ag_H → ag_R) (b2 : Option Nat → Option Nat → Int32 → Int32 → ag_H → ag_R) (l0 : Option Nat) (l1 : Option Nat) (l2 : Int32) (l3 : Int32) (h : ag_H) : ag_R :=
  ag_gI h l0 7 4 fun x1 =>
  if x1 ≤ l3 then
    some (.inl (some (.inr none)), h)
  else
    ag_gR h l0 7 2 fun x2 =>
    ag_xR h x2 106 l3 fun x3 =>
    ag_gI h x3 9 1 fun x4 =>
    ag_gI h l1 9 0 fun x5 =>
    if x4 = x5 then
      ag_gR h l0 7 2 fun x6 =>
      ag_xR h x6 106 l3 fun x7 =>
      ag_gI h x7 9 2 fun x8 =>
      if x8 = l2 then
        ag_gR h l0 7 2 fun x9 =>
        ag_xR h x9 106 l3 fun x10 =>
        some (.inl (some (.inr x10)), h)
      else
        f53_46 call b2 l0 l1 l2 l3 h
    else
      f53_46 call b2 l0 l1 l2 l3 h
/-- NameSpaces$Server.fileIn(LNameSpaces$TreeFile;C)LNameSpaces$TreeFile; -/
def f53 (call : Nat → List ag_V → ag_H → ag_R) (b2 : Option Nat → Option Nat → Int32 → Int32 → ag_H → ag_R) (l0 : Option Nat) (l1 : Option Nat) (l2 : Int32) (h : ag_H) : ag_R :=
  f53_2 call b2 l0 l1 l2 (ag_lit 0) h
def g53 (call : Nat → List ag_V → ag_H → ag_R) : Nat → Option Nat → Option Nat → Int32 → Int32 → ag_H → ag_R
  | 0 => fun _ _ _ _ _ => none
  | n + 1 => f53_2 call (g53 call n)
set_option maxRecDepth 100000 in
set_option maxHeartbeats 4000000 in
theorem i53_2 (call : Nat → List ag_V → ag_H → ag_R) (B : ag_K4) (l0 : Option Nat) (l1 : Option Nat) (l2 : Int32) (l3 : Int32) (h : ag_H) : ag_in 2 call B t53 2 [some (.inr l0), some (.inr l1), some (.inl l2), some (.inl l3)] [] h = f53_2 call (fun (l0 : Option Nat) (l1 : Option Nat) (l2 : Int32) (l3 : Int32) (h : ag_H) => B 2 [some (.inr l0), some (.inr l1), some (.inl l2), some (.inl l3)] [] h) l0 l1 l2 l3 h := by
  rfl
set_option maxRecDepth 100000 in
set_option maxHeartbeats 4000000 in
theorem i53 (call : Nat → List ag_V → ag_H → ag_R) (B : ag_K4) (l0 : Option Nat) (l1 : Option Nat) (l2 : Int32) (h : ag_H) : ag_in 2 call B t53 0 [some (.inr l0), some (.inr l1), some (.inl l2), none] [] h = f53 call (fun (l0 : Option Nat) (l1 : Option Nat) (l2 : Int32) (l3 : Int32) (h : ag_H) => B 2 [some (.inr l0), some (.inr l1), some (.inl l2), some (.inl l3)] [] h) l0 l1 l2 h := by
  rfl
set_option maxRecDepth 100000 in
set_option maxHeartbeats 4000000 in
theorem o53 (call : Nat → List ag_V → ag_H → ag_R) : ∀ n : Nat, (fun (l0 : Option Nat) (l1 : Option Nat) (l2 : Int32) (l3 : Int32) (h : ag_H) => (ag_out 2 call t53 n) 2 [some (.inr l0), some (.inr l1), some (.inl l2), some (.inl l3)] [] h) = g53 call n := by
  intro n
  induction n with
  | zero => rfl
  | succ n ih =>
    funext l0 l1 l2 l3 h
    show ag_in 2 call (ag_out 2 call t53 n) t53 2 [some (.inr l0), some (.inr l1), some (.inl l2), some (.inl l3)] [] h = f53_2 call (g53 call n) l0 l1 l2 l3 h
    rw [i53_2, ih]
set_option maxRecDepth 100000 in
set_option maxHeartbeats 4000000 in
theorem r53 (d : Nat) (l0 : Option Nat) (l1 : Option Nat) (l2 : Int32) (h : ag_H) : ag_run gT (d + 1) 53 [.inr l0, .inr l1, .inl l2] h = f53 (ag_run gT d) (g53 (ag_run gT d) 3999) l0 l1 l2 h := by
  show ag_out 2 (ag_run gT d) t53 4000 0 [some (.inr l0), some (.inr l1), some (.inl l2), none] [] h = _
  rw [ag_out_top, i53, o53]
def f54_50 (call : Nat → List ag_V → ag_H → ag_R) (b5 : Option Nat → Option Nat → Int32 → Int32 → Int32 → ag_H → ag_R) (l0 : Option Nat) (l1 : Option Nat) (l2 : Int32) (l3 : Int32) (l4 : Int32) (h : ag_H) : ag_R :=
  b5 l0 l1 l2 l3 (l4 + ag_lit 1) h
def f54_5 (call : Nat → List ag_V → ag_H → ag_R) (b5 : Option Nat → Option Nat → Int32 → Int32 → Int32 → ag_H → ag_R) (l0 : Option Nat) (l1 : Option Nat) (l2 : Int32) (l3 : Int32) (l4 : Int32) (h : ag_H) : ag_R :=
  ag_gI h l0 7 4 fun x1 =>
  if x1 ≤ l4 then
    some (.inl (some (.inl (ag_lit (-1)))), h)
  else
    ag_gR h l0 7 2 fun x2 =>
    ag_xR h x2 106 l4 fun x3 =>
    ag_gI h x3 9 1 fun x4 =>
    ag_gI h l1 9 0 fun x5 =>
    if x4 = x5 then
      if l3 = l2 then
        ag_gR h l0 7 2 fun x6 =>
        ag_xR h x6 106 l4 fun x7 =>
        ag_gI h x7 9 2 fun x8 =>
        some (.inl (some (.inl x8)), h)
      else
        f54_50 call b5 l0 l1 l2 (l3 + ag_lit 1) l4 h
    else
      f54_50 call b5 l0 l1 l2 l3 l4 h
/-- NameSpaces$Server.letterIn(LNameSpaces$TreeFile;I)I -/
def f54 (call : Nat → List ag_V → ag_H → ag_R) (b5 : Option Nat → Option Nat → Int32 → Int32 → Int32 → ag_H → ag_R) (l0 : Option Nat) (l1 : Option Nat) (l2 : Int32) (h : ag_H) : ag_R :=
  f54_5 call b5 l0 l1 l2 (ag_lit 0) (ag_lit 0) h
def g54 (call : Nat → List ag_V → ag_H → ag_R) : Nat → Option Nat → Option Nat → Int32 → Int32 → Int32 → ag_H → ag_R
  | 0 => fun _ _ _ _ _ _ => none
  | n + 1 => f54_5 call (g54 call n)
set_option maxRecDepth 100000 in
set_option maxHeartbeats 4000000 in
theorem i54_5 (call : Nat → List ag_V → ag_H → ag_R) (B : ag_K4) (l0 : Option Nat) (l1 : Option Nat) (l2 : Int32) (l3 : Int32) (l4 : Int32) (h : ag_H) : ag_in 1 call B t54 5 [some (.inr l0), some (.inr l1), some (.inl l2), some (.inl l3), some (.inl l4)] [] h = f54_5 call (fun (l0 : Option Nat) (l1 : Option Nat) (l2 : Int32) (l3 : Int32) (l4 : Int32) (h : ag_H) => B 5 [some (.inr l0), some (.inr l1), some (.inl l2), some (.inl l3), some (.inl l4)] [] h) l0 l1 l2 l3 l4 h := by
  rfl
set_option maxRecDepth 100000 in
set_option maxHeartbeats 4000000 in
theorem i54 (call : Nat → List ag_V → ag_H → ag_R) (B : ag_K4) (l0 : Option Nat) (l1 : Option Nat) (l2 : Int32) (h : ag_H) : ag_in 1 call B t54 0 [some (.inr l0), some (.inr l1), some (.inl l2), none, none] [] h = f54 call (fun (l0 : Option Nat) (l1 : Option Nat) (l2 : Int32) (l3 : Int32) (l4 : Int32) (h : ag_H) => B 5 [some (.inr l0), some (.inr l1), some (.inl l2), some (.inl l3), some (.inl l4)] [] h) l0 l1 l2 h := by
  rfl
set_option maxRecDepth 100000 in
set_option maxHeartbeats 4000000 in
theorem o54 (call : Nat → List ag_V → ag_H → ag_R) : ∀ n : Nat, (fun (l0 : Option Nat) (l1 : Option Nat) (l2 : Int32) (l3 : Int32) (l4 : Int32) (h : ag_H) => (ag_out 1 call t54 n) 5 [some (.inr l0), some (.inr l1), some (.inl l2), some (.inl l3), some (.inl l4)] [] h) = g54 call n := by
  intro n
  induction n with
  | zero => rfl
  | succ n ih =>
    funext l0 l1 l2 l3 l4 h
    show ag_in 1 call (ag_out 1 call t54 n) t54 5 [some (.inr l0), some (.inr l1), some (.inl l2), some (.inl l3), some (.inl l4)] [] h = f54_5 call (g54 call n) l0 l1 l2 l3 l4 h
    rw [i54_5, ih]
set_option maxRecDepth 100000 in
set_option maxHeartbeats 4000000 in
theorem r54 (d : Nat) (l0 : Option Nat) (l1 : Option Nat) (l2 : Int32) (h : ag_H) : ag_run gT (d + 1) 54 [.inr l0, .inr l1, .inl l2] h = f54 (ag_run gT d) (g54 (ag_run gT d) 3999) l0 l1 l2 h := by
  show ag_out 1 (ag_run gT d) t54 4000 0 [some (.inr l0), some (.inr l1), some (.inl l2), none, none] [] h = _
  rw [ag_out_top, i54, o54]
def f55_40 (call : Nat → List ag_V → ag_H → ag_R) (b4 : Option Nat → Int32 → Int32 → Int32 → ag_H → ag_R) (l0 : Option Nat) (l1 : Int32) (l2 : Int32) (l3 : Int32) (h : ag_H) : ag_R :=
  b4 l0 l1 l2 (l3 + ag_lit 1) h
def f55_4 (call : Nat → List ag_V → ag_H → ag_R) (b4 : Option Nat → Int32 → Int32 → Int32 → ag_H → ag_R) (l0 : Option Nat) (l1 : Int32) (l2 : Int32) (l3 : Int32) (h : ag_H) : ag_R :=
  ag_gI h l0 7 4 fun x1 =>
  if x1 ≤ l3 then
    ag_pF h l0 7 4 (.inl l2) fun h2 =>
    some (.inl none, h2)
  else
    ag_gR h l0 7 2 fun x3 =>
    ag_xR h x3 106 l3 fun x4 =>
    ag_gI h x4 9 0 fun x5 =>
    if x5 = l1 then
      f55_40 call b4 l0 l1 l2 l3 h
    else
      ag_gR h l0 7 2 fun x6 =>
      ag_gR h l0 7 2 fun x7 =>
      ag_xR h x7 106 l3 fun x8 =>
      ag_oK h x8 9 <| ag_xP h x6 106 l2 (.inr x8) fun h9 =>
      f55_40 call b4 l0 l1 (l2 + ag_lit 1) l3 h9
/-- NameSpaces$Server.forget(I)V -/
def f55 (call : Nat → List ag_V → ag_H → ag_R) (b4 : Option Nat → Int32 → Int32 → Int32 → ag_H → ag_R) (l0 : Option Nat) (l1 : Int32) (h : ag_H) : ag_R :=
  f55_4 call b4 l0 l1 (ag_lit 0) (ag_lit 0) h
def g55 (call : Nat → List ag_V → ag_H → ag_R) : Nat → Option Nat → Int32 → Int32 → Int32 → ag_H → ag_R
  | 0 => fun _ _ _ _ _ => none
  | n + 1 => f55_4 call (g55 call n)
set_option maxRecDepth 100000 in
set_option maxHeartbeats 4000000 in
theorem i55_4 (call : Nat → List ag_V → ag_H → ag_R) (B : ag_K4) (l0 : Option Nat) (l1 : Int32) (l2 : Int32) (l3 : Int32) (h : ag_H) : ag_in 0 call B t55 4 [some (.inr l0), some (.inl l1), some (.inl l2), some (.inl l3)] [] h = f55_4 call (fun (l0 : Option Nat) (l1 : Int32) (l2 : Int32) (l3 : Int32) (h : ag_H) => B 4 [some (.inr l0), some (.inl l1), some (.inl l2), some (.inl l3)] [] h) l0 l1 l2 l3 h := by
  rfl
set_option maxRecDepth 100000 in
set_option maxHeartbeats 4000000 in
theorem i55 (call : Nat → List ag_V → ag_H → ag_R) (B : ag_K4) (l0 : Option Nat) (l1 : Int32) (h : ag_H) : ag_in 0 call B t55 0 [some (.inr l0), some (.inl l1), none, none] [] h = f55 call (fun (l0 : Option Nat) (l1 : Int32) (l2 : Int32) (l3 : Int32) (h : ag_H) => B 4 [some (.inr l0), some (.inl l1), some (.inl l2), some (.inl l3)] [] h) l0 l1 h := by
  rfl
set_option maxRecDepth 100000 in
set_option maxHeartbeats 4000000 in
theorem o55 (call : Nat → List ag_V → ag_H → ag_R) : ∀ n : Nat, (fun (l0 : Option Nat) (l1 : Int32) (l2 : Int32) (l3 : Int32) (h : ag_H) => (ag_out 0 call t55 n) 4 [some (.inr l0), some (.inl l1), some (.inl l2), some (.inl l3)] [] h) = g55 call n := by
  intro n
  induction n with
  | zero => rfl
  | succ n ih =>
    funext l0 l1 l2 l3 h
    show ag_in 0 call (ag_out 0 call t55 n) t55 4 [some (.inr l0), some (.inl l1), some (.inl l2), some (.inl l3)] [] h = f55_4 call (g55 call n) l0 l1 l2 l3 h
    rw [i55_4, ih]
set_option maxRecDepth 100000 in
set_option maxHeartbeats 4000000 in
theorem r55 (d : Nat) (l0 : Option Nat) (l1 : Int32) (h : ag_H) : ag_run gT (d + 1) 55 [.inr l0, .inl l1] h = f55 (ag_run gT d) (g55 (ag_run gT d) 3999) l0 l1 h := by
  show ag_out 0 (ag_run gT d) t55 4000 0 [some (.inr l0), some (.inl l1), none, none] [] h = _
  rw [ag_out_top, i55, o55]
/-- NameSpaces$Text.<init>()V -/
def f56 (call : Nat → List ag_V → ag_H → ag_R)  (l0 : Option Nat) (h : ag_H) : ag_R :=
  ag_nn l0 <|
  ag_na h (ag_lit8 24) 101 (.inl 0) fun o1 h2 =>
  ag_pF h2 l0 8 0 (.inr o1) fun h3 =>
  some (.inl none, h3)
set_option maxRecDepth 100000 in
set_option maxHeartbeats 4000000 in
theorem i56 (call : Nat → List ag_V → ag_H → ag_R) (B : ag_K4) (l0 : Option Nat) (h : ag_H) : ag_in 0 call B t56 0 [some (.inr l0)] [] h = f56 call  l0 h := by
  rfl
set_option maxRecDepth 100000 in
set_option maxHeartbeats 4000000 in
theorem r56 (d : Nat) (l0 : Option Nat) (h : ag_H) : ag_run gT (d + 1) 56 [.inr l0] h = f56 (ag_run gT d)  l0 h := by
  show ag_out 0 (ag_run gT d) t56 4000 0 [some (.inr l0)] [] h = _
  rw [ag_out_top, i56]
/-- NameSpaces$Text.append(C)Z -/
def f57 (call : Nat → List ag_V → ag_H → ag_R)  (l0 : Option Nat) (l1 : Int32) (h : ag_H) : ag_R :=
  ag_gI h l0 8 1 fun x1 =>
  if x1 < (ag_lit8 24) then
    ag_gR h l0 8 0 fun x2 =>
    ag_gI h l0 8 1 fun x3 =>
    ag_isC l1 <| ag_xP h x2 101 x3 (.inl l1) fun h4 =>
    ag_gI h4 l0 8 1 fun x5 =>
    ag_pF h4 l0 8 1 (.inl (x5 + (ag_lit 1))) fun h6 =>
    ag_isB (ag_lit 1) (some (.inl (some (.inl (ag_lit 1))), h6))
  else
    ag_isB (ag_lit 0) (some (.inl (some (.inl (ag_lit 0))), h))
set_option maxRecDepth 100000 in
set_option maxHeartbeats 4000000 in
theorem i57 (call : Nat → List ag_V → ag_H → ag_R) (B : ag_K4) (l0 : Option Nat) (l1 : Int32) (h : ag_H) : ag_in 4 call B t57 0 [some (.inr l0), some (.inl l1)] [] h = f57 call  l0 l1 h := by
  rfl
set_option maxRecDepth 100000 in
set_option maxHeartbeats 4000000 in
theorem r57 (d : Nat) (l0 : Option Nat) (l1 : Int32) (h : ag_H) : ag_run gT (d + 1) 57 [.inr l0, .inl l1] h = f57 (ag_run gT d)  l0 l1 h := by
  show ag_out 4 (ag_run gT d) t57 4000 0 [some (.inr l0), some (.inl l1)] [] h = _
  rw [ag_out_top, i57]
def f58_28 (call : Nat → List ag_V → ag_H → ag_R)  (s0 : Int32) (h : ag_H) : ag_R :=
  ag_isC s0 (some (.inl (some (.inl s0)), h))
def f58_27 (call : Nat → List ag_V → ag_H → ag_R)   (h : ag_H) : ag_R :=
  f58_28 call (ag_lit 0) h
/-- NameSpaces$Text.character(I)C -/
def f58 (call : Nat → List ag_V → ag_H → ag_R)  (l0 : Option Nat) (l1 : Int32) (h : ag_H) : ag_R :=
  if l1 < (ag_lit 0) then
    f58_27 call h
  else
    ag_gI h l0 8 1 fun x1 =>
    if x1 ≤ l1 then
      f58_27 call h
    else
      if (ag_lit8 24) ≤ l1 then
        f58_27 call h
      else
        ag_gR h l0 8 0 fun x2 =>
        ag_xI h x2 101 l1 fun x3 =>
        f58_28 call x3 h
set_option maxRecDepth 100000 in
set_option maxHeartbeats 4000000 in
theorem i58 (call : Nat → List ag_V → ag_H → ag_R) (B : ag_K4) (l0 : Option Nat) (l1 : Int32) (h : ag_H) : ag_in 3 call B t58 0 [some (.inr l0), some (.inl l1)] [] h = f58 call  l0 l1 h := by
  rfl
set_option maxRecDepth 100000 in
set_option maxHeartbeats 4000000 in
theorem r58 (d : Nat) (l0 : Option Nat) (l1 : Int32) (h : ag_H) : ag_run gT (d + 1) 58 [.inr l0, .inl l1] h = f58 (ag_run gT d)  l0 l1 h := by
  show ag_out 3 (ag_run gT d) t58 4000 0 [some (.inr l0), some (.inl l1)] [] h = _
  rw [ag_out_top, i58]
/-- NameSpaces$Text.copyFrom(LNameSpaces$Text;)V -/
def f59 (call : Nat → List ag_V → ag_H → ag_R)  (l0 : Option Nat) (l1 : Option Nat) (h : ag_H) : ag_R :=
  ag_gR h l1 8 0 fun x1 =>
  ag_gR h l0 8 0 fun x2 =>
  ag_cp h x1 (ag_lit 0) x2 (ag_lit 0) (ag_lit8 24) fun h3 =>
  ag_gI h3 l1 8 1 fun x4 =>
  ag_pF h3 l0 8 1 (.inl x4) fun h5 =>
  some (.inl none, h5)
set_option maxRecDepth 100000 in
set_option maxHeartbeats 4000000 in
theorem i59 (call : Nat → List ag_V → ag_H → ag_R) (B : ag_K4) (l0 : Option Nat) (l1 : Option Nat) (h : ag_H) : ag_in 0 call B t59 0 [some (.inr l0), some (.inr l1)] [] h = f59 call  l0 l1 h := by
  rfl
set_option maxRecDepth 100000 in
set_option maxHeartbeats 4000000 in
theorem r59 (d : Nat) (l0 : Option Nat) (l1 : Option Nat) (h : ag_H) : ag_run gT (d + 1) 59 [.inr l0, .inr l1] h = f59 (ag_run gT d)  l0 l1 h := by
  show ag_out 0 (ag_run gT d) t59 4000 0 [some (.inr l0), some (.inr l1)] [] h = _
  rw [ag_out_top, i59]

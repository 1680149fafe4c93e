def f60_37 (call : Nat → List ag_V → ag_H → ag_R)  (s0 : Option Nat) (s1 : Int32) (h : ag_H) : ag_R :=
  ag_na h s1 100 (.inl 0) fun o1 h2 =>
  ag_pF h2 s0 9 4 (.inr o1) fun h3 =>
  some (.inl none, h3)
/-- NameSpaces$TreeFile.<init>(IICZ)V -/
def f60 (call : Nat → List ag_V → ag_H → ag_R)  (l0 : Option Nat) (l1 : Int32) (l2 : Int32) (l3 : Int32) (l4 : Int32) (h : ag_H) : ag_R :=
  ag_nn l0 <|
  ag_pF h l0 9 0 (.inl l1) fun h1 =>
  ag_pF h1 l0 9 1 (.inl l2) fun h2 =>
  ag_isC l3 <| ag_pF h2 l0 9 2 (.inl l3) fun h3 =>
  ag_isB l4 <| ag_pF h3 l0 9 3 (.inl l4) fun h4 =>
  if l4 = (ag_lit 0) then
    f60_37 call l0 (ag_lit8 8) h4
  else
    f60_37 call l0 (ag_lit 0) h4
set_option maxRecDepth 100000 in
set_option maxHeartbeats 4000000 in
theorem i60 (call : Nat → List ag_V → ag_H → ag_R) (B : ag_K4) (l0 : Option Nat) (l1 : Int32) (l2 : Int32) (l3 : Int32) (l4 : Int32) (h : ag_H) : ag_in 0 call B t60 0 [some (.inr l0), some (.inl l1), some (.inl l2), some (.inl l3), some (.inl l4)] [] h = f60 call  l0 l1 l2 l3 l4 h := by
  rfl
set_option maxRecDepth 100000 in
set_option maxHeartbeats 4000000 in
theorem r60 (d : Nat) (l0 : Option Nat) (l1 : Int32) (l2 : Int32) (l3 : Int32) (l4 : Int32) (h : ag_H) : ag_run gT (d + 1) 60 [.inr l0, .inl l1, .inl l2, .inl l3, .inl l4] h = f60 (ag_run gT d)  l0 l1 l2 l3 l4 h := by
  show ag_out 0 (ag_run gT d) t60 4000 0 [some (.inr l0), some (.inl l1), some (.inl l2), some (.inl l3), some (.inl l4)] [] h = _
  rw [ag_out_top, i60]
def f61_31 (call : Nat → List ag_V → ag_H → ag_R)  (s0 : Int32) (h : ag_H) : ag_R :=
  some (.inl (some (.inl s0)), h)
def f61_30 (call : Nat → List ag_V → ag_H → ag_R)   (h : ag_H) : ag_R :=
  f61_31 call (ag_lit (-1)) h
/-- NameSpaces$TreeFile.byteAtPlace(I)I -/
def f61 (call : Nat → List ag_V → ag_H → ag_R)  (l0 : Option Nat) (l1 : Int32) (h : ag_H) : ag_R :=
  if l1 < (ag_lit 0) then
    f61_30 call h
  else
    ag_gI h l0 9 5 fun x1 =>
    if x1 ≤ l1 then
      f61_30 call h
    else
      ag_gR h l0 9 4 fun x2 =>
      ag_xN h x2 100 fun x3 =>
      if x3 ≤ l1 then
        f61_30 call h
      else
        ag_gR h l0 9 4 fun x4 =>
        ag_xI h x4 100 l1 fun x5 =>
        f61_31 call x5 h
set_option maxRecDepth 100000 in
set_option maxHeartbeats 4000000 in
theorem i61 (call : Nat → List ag_V → ag_H → ag_R) (B : ag_K4) (l0 : Option Nat) (l1 : Int32) (h : ag_H) : ag_in 1 call B t61 0 [some (.inr l0), some (.inl l1)] [] h = f61 call  l0 l1 h := by
  rfl
set_option maxRecDepth 100000 in
set_option maxHeartbeats 4000000 in
theorem r61 (d : Nat) (l0 : Option Nat) (l1 : Int32) (h : ag_H) : ag_run gT (d + 1) 61 [.inr l0, .inl l1] h = f61 (ag_run gT d)  l0 l1 h := by
  show ag_out 1 (ag_run gT d) t61 4000 0 [some (.inr l0), some (.inl l1)] [] h = _
  rw [ag_out_top, i61]
def f62_105 (call : Nat → List ag_V → ag_H → ag_R) (b105 : Option Nat → Int32 → ag_H → ag_R) (l0 : Option Nat) (l1 : Int32) (h : ag_H) : ag_R :=
  if (ag_lit 4) ≤ l1 then
    ag_gR h l0 10 2 fun x1 =>
    ag_xR h x1 105 (ag_lit 0) fun x2 =>
    ag_gR h l0 10 1 fun x3 =>
    ag_xR h x3 104 (ag_lit 0) fun x4 =>
    ag_pF h x2 6 1 (.inr x4) fun h5 =>
    ag_gR h5 l0 10 1 fun x6 =>
    ag_xR h5 x6 104 (ag_lit 0) fun x7 =>
    ag_pF h5 x7 2 2 (.inl (ag_lit 1)) fun h8 =>
    some (.inl none, h8)
  else
    ag_gR h l0 10 1 fun x9 =>
    ag_nw h 2 fun o10 h11 =>
    ag_nn o10 <| ag_bW (call 13 [.inr o10] h11) fun h12 =>
    ag_oK h12 o10 2 <| ag_xP h12 x9 104 l1 (.inr o10) fun h13 =>
    ag_gR h13 l0 10 2 fun x14 =>
    ag_nw h13 6 fun o15 h16 =>
    ag_nn o15 <| ag_bW (call 29 [.inr o15] h16) fun h17 =>
    ag_oK h17 o15 6 <| ag_xP h17 x14 105 l1 (.inr o15) fun h18 =>
    b105 l0 (l1 + ag_lit 1) h18
/-- NameSpaces.<init>()V -/
def f62 (call : Nat → List ag_V → ag_H → ag_R) (b105 : Option Nat → Int32 → ag_H → ag_R) (l0 : Option Nat) (h : ag_H) : ag_R :=
  ag_nn l0 <|
  ag_na h (ag_lit 2) 103 (.inr none) fun o1 h2 =>
  ag_nw h2 7 fun o3 h4 =>
  ag_nn o3 <| ag_bW (call 34 [.inr o3] h4) fun h5 =>
  ag_oK h5 o3 7 <| ag_xP h5 o1 103 (ag_lit 0) (.inr o3) fun h6 =>
  ag_nw h6 7 fun o7 h8 =>
  ag_nn o7 <| ag_bW (call 34 [.inr o7] h8) fun h9 =>
  ag_oK h9 o7 7 <| ag_xP h9 o1 103 (ag_lit 1) (.inr o7) fun h10 =>
  ag_pF h10 l0 10 0 (.inr o1) fun h11 =>
  ag_na h11 (ag_lit 4) 104 (.inr none) fun o12 h13 =>
  ag_pF h13 l0 10 1 (.inr o12) fun h14 =>
  ag_na h14 (ag_lit 4) 105 (.inr none) fun o15 h16 =>
  ag_pF h16 l0 10 2 (.inr o15) fun h17 =>
  ag_nw h17 8 fun o18 h19 =>
  ag_nn o18 <| ag_bW (call 56 [.inr o18] h19) fun h20 =>
  ag_pF h20 l0 10 3 (.inr o18) fun h21 =>
  ag_nw h21 8 fun o22 h23 =>
  ag_nn o22 <| ag_bW (call 56 [.inr o22] h23) fun h24 =>
  ag_pF h24 l0 10 4 (.inr o22) fun h25 =>
  ag_nw h25 4 fun o26 h27 =>
  ag_nn o26 <| ag_bW (call 24 [.inr o26] h27) fun h28 =>
  ag_pF h28 l0 10 5 (.inr o26) fun h29 =>
  ag_nw h29 4 fun o30 h31 =>
  ag_nn o30 <| ag_bW (call 24 [.inr o30] h31) fun h32 =>
  ag_pF h32 l0 10 6 (.inr o30) fun h33 =>
  ag_nw h33 0 fun o34 h35 =>
  ag_nn o34 <| ag_bW (call 0 [.inr o34] h35) fun h36 =>
  ag_pF h36 l0 10 7 (.inr o34) fun h37 =>
  f62_105 call b105 l0 (ag_lit 0) h37
def g62 (call : Nat → List ag_V → ag_H → ag_R) : Nat → Option Nat → Int32 → ag_H → ag_R
  | 0 => fun _ _ _ => none
  | n + 1 => f62_105 call (g62 call n)
set_option maxRecDepth 100000 in
set_option maxHeartbeats 4000000 in
theorem i62_105 (call : Nat → List ag_V → ag_H → ag_R) (B : ag_K4) (l0 : Option Nat) (l1 : Int32) (h : ag_H) : ag_in 0 call B t62 105 [some (.inr l0), some (.inl l1)] [] h = f62_105 call (fun (l0 : Option Nat) (l1 : Int32) (h : ag_H) => B 105 [some (.inr l0), some (.inl l1)] [] h) l0 l1 h := by
  rfl
set_option maxRecDepth 100000 in
set_option maxHeartbeats 4000000 in
theorem i62 (call : Nat → List ag_V → ag_H → ag_R) (B : ag_K4) (l0 : Option Nat) (h : ag_H) : ag_in 0 call B t62 0 [some (.inr l0), none] [] h = f62 call (fun (l0 : Option Nat) (l1 : Int32) (h : ag_H) => B 105 [some (.inr l0), some (.inl l1)] [] h) l0 h := by
  rfl
set_option maxRecDepth 100000 in
set_option maxHeartbeats 4000000 in
theorem o62 (call : Nat → List ag_V → ag_H → ag_R) : ∀ n : Nat, (fun (l0 : Option Nat) (l1 : Int32) (h : ag_H) => (ag_out 0 call t62 n) 105 [some (.inr l0), some (.inl l1)] [] h) = g62 call n := by
  intro n
  induction n with
  | zero => rfl
  | succ n ih =>
    funext l0 l1 h
    show ag_in 0 call (ag_out 0 call t62 n) t62 105 [some (.inr l0), some (.inl l1)] [] h = f62_105 call (g62 call n) l0 l1 h
    rw [i62_105, ih]
set_option maxRecDepth 100000 in
set_option maxHeartbeats 4000000 in
theorem r62 (d : Nat) (l0 : Option Nat) (h : ag_H) : ag_run gT (d + 1) 62 [.inr l0] h = f62 (ag_run gT d) (g62 (ag_run gT d) 3999) l0 h := by
  show ag_out 0 (ag_run gT d) t62 4000 0 [some (.inr l0), none] [] h = _
  rw [ag_out_top, i62, o62]
/-- NameSpaces.type(C)I -/
def f63 (call : Nat → List ag_V → ag_H → ag_R)  (l0 : Option Nat) (l1 : Int32) (h : ag_H) : ag_R :=
  ag_gR h l0 10 3 fun x1 =>
  ag_at h x1 8 fun a2 _ => ag_bI (call 57 [.inr (some a2), .inl l1] h) fun x4 h3 =>
  if x4 = (ag_lit 0) then
    some (.inr 1, ag_thr h3)
  else
    ag_gR h3 l0 10 3 fun x5 =>
    ag_gI h3 x5 8 1 fun x6 =>
    some (.inl (some (.inl x6)), h3)
set_option maxRecDepth 100000 in
set_option maxHeartbeats 4000000 in
theorem i63 (call : Nat → List ag_V → ag_H → ag_R) (B : ag_K4) (l0 : Option Nat) (l1 : Int32) (h : ag_H) : ag_in 1 call B t63 0 [some (.inr l0), some (.inl l1)] [] h = f63 call  l0 l1 h := by
  rfl
set_option maxRecDepth 100000 in
set_option maxHeartbeats 4000000 in
theorem r63 (d : Nat) (l0 : Option Nat) (l1 : Int32) (h : ag_H) : ag_run gT (d + 1) 63 [.inr l0, .inl l1] h = f63 (ag_run gT d)  l0 l1 h := by
  show ag_out 1 (ag_run gT d) t63 4000 0 [some (.inr l0), some (.inl l1)] [] h = _
  rw [ag_out_top, i63]
/-- NameSpaces.keep()I -/
def f64 (call : Nat → List ag_V → ag_H → ag_R)  (l0 : Option Nat) (h : ag_H) : ag_R :=
  ag_gR h l0 10 4 fun x1 =>
  ag_gR h l0 10 3 fun x2 =>
  ag_at h x1 8 fun a3 _ => ag_bV (call 59 [.inr (some a3), .inr x2] h) fun h4 =>
  ag_gR h4 l0 10 3 fun x5 =>
  ag_pF h4 x5 8 1 (.inl (ag_lit 0)) fun h6 =>
  ag_gR h6 l0 10 4 fun x7 =>
  ag_gI h6 x7 8 1 fun x8 =>
  some (.inl (some (.inl x8)), h6)
set_option maxRecDepth 100000 in
set_option maxHeartbeats 4000000 in
theorem i64 (call : Nat → List ag_V → ag_H → ag_R) (B : ag_K4) (l0 : Option Nat) (h : ag_H) : ag_in 1 call B t64 0 [some (.inr l0)] [] h = f64 call  l0 h := by
  rfl
set_option maxRecDepth 100000 in
set_option maxHeartbeats 4000000 in
theorem r64 (d : Nat) (l0 : Option Nat) (h : ag_H) : ag_run gT (d + 1) 64 [.inr l0] h = f64 (ag_run gT d)  l0 h := by
  show ag_out 1 (ag_run gT d) t64 4000 0 [some (.inr l0)] [] h = _
  rw [ag_out_top, i64]
def f65_106 (call : Nat → List ag_V → ag_H → ag_R)  (l2 : Int32) (l4 : Int32) (l5 : Option Nat) (h : ag_H) : ag_R :=
  ag_at h l5 3 fun a1 _ => ag_bV (call 20 [.inr (some a1), .inl l2] h) fun h2 =>
  some (.inl (some (.inl l4)), h2)
def f65_25 (call : Nat → List ag_V → ag_H → ag_R)   (h : ag_H) : ag_R :=
  some (.inr 0, ag_thr h)
/-- NameSpaces.open(II)I -/
def f65 (call : Nat → List ag_V → ag_H → ag_R)  (l0 : Option Nat) (l1 : Int32) (l2 : Int32) (h : ag_H) : ag_R :=
  ag_at h l0 10 fun a1 _ => ag_bR (call 87 [.inr (some a1), .inl l1] h) fun x3 h2 =>
  ag_gR h2 l0 10 5 fun x4 =>
  ag_gI h2 x4 4 2 fun x5 =>
  if x5 = (ag_lit 0) then
    f65_25 call h2
  else
    if l2 < (ag_lit 0) then
      f65_25 call h2
    else
      if l2 ≤ (ag_lit 2) then
        ag_at h2 x3 6 fun a6 _ => ag_bI (call 32 [.inr (some a6)] h2) fun x8 h7 =>
        ag_bR (call 86 [.inr x3, .inl x8] h7) fun x10 h9 =>
        ag_gR h9 x3 6 1 fun x11 =>
        ag_gR h9 l0 10 5 fun x12 =>
        ag_gR h9 l0 10 5 fun x13 =>
        ag_gI h9 x13 4 1 fun x14 =>
        ag_at h9 l0 10 fun a15 _ => ag_bV (call 91 [.inr (some a15), .inr x11, .inr x12, .inl x14] h9) fun h16 =>
        ag_gR h16 x3 6 1 fun x17 =>
        ag_at h16 l0 10 fun a18 _ => ag_bV (call 98 [.inr (some a18), .inr x17, .inr x10] h16) fun h19 =>
        ag_gR h19 x10 3 0 fun x20 =>
        ag_at h19 l0 10 fun a21 _ => ag_bI (call 100 [.inr (some a21), .inr x20, .inl l2] h19) fun x23 h22 =>
        ag_gR h22 x10 3 0 fun x24 =>
        ag_gI h22 x24 0 3 fun x25 =>
        if x25 = (ag_lit 0) then
          ag_bV (call 89 [.inl x23] h22) fun h26 =>
          f65_106 call l2 x8 x10 h26
        else
          f65_106 call l2 x8 x10 h22
      else
        f65_25 call h2
set_option maxRecDepth 100000 in
set_option maxHeartbeats 4000000 in
theorem i65 (call : Nat → List ag_V → ag_H → ag_R) (B : ag_K4) (l0 : Option Nat) (l1 : Int32) (l2 : Int32) (h : ag_H) : ag_in 1 call B t65 0 [some (.inr l0), some (.inl l1), some (.inl l2), none, none, none, none] [] h = f65 call  l0 l1 l2 h := by
  rfl
set_option maxRecDepth 100000 in
set_option maxHeartbeats 4000000 in
theorem r65 (d : Nat) (l0 : Option Nat) (l1 : Int32) (l2 : Int32) (h : ag_H) : ag_run gT (d + 1) 65 [.inr l0, .inl l1, .inl l2] h = f65 (ag_run gT d)  l0 l1 l2 h := by
  show ag_out 1 (ag_run gT d) t65 4000 0 [some (.inr l0), some (.inl l1), some (.inl l2), none, none, none, none] [] h = _
  rw [ag_out_top, i65]
def f66_103 (call : Nat → List ag_V → ag_H → ag_R)  (l4 : Int32) (s0 : Option Nat) (s1 : Int32) (h : ag_H) : ag_R :=
  ag_at h s0 3 fun a1 _ => ag_bV (call 20 [.inr (some a1), .inl s1] h) fun h2 =>
  some (.inl (some (.inl l4)), h2)
/-- NameSpaces.create(IZ)I -/
def f66 (call : Nat → List ag_V → ag_H → ag_R)  (l0 : Option Nat) (l1 : Int32) (l2 : Int32) (h : ag_H) : ag_R :=
  ag_at h l0 10 fun a1 _ => ag_bR (call 87 [.inr (some a1), .inl l1] h) fun x3 h2 =>
  ag_gR h2 l0 10 5 fun x4 =>
  ag_gI h2 x4 4 2 fun x5 =>
  if x5 = (ag_lit 0) then
    some (.inr 0, ag_thr h2)
  else
    ag_at h2 x3 6 fun a6 _ => ag_bI (call 32 [.inr (some a6)] h2) fun x8 h7 =>
    ag_bR (call 86 [.inr x3, .inl x8] h7) fun x10 h9 =>
    ag_gR h9 l0 10 5 fun x11 =>
    ag_gI h9 x11 4 1 fun x12 =>
    if x12 = (ag_lit 0) then
      some (.inr 3, ag_thr h9)
    else
      ag_gR h9 x3 6 1 fun x13 =>
      ag_gR h9 l0 10 5 fun x14 =>
      ag_gR h9 l0 10 5 fun x15 =>
      ag_gI h9 x15 4 1 fun x16 =>
      ag_at h9 l0 10 fun a17 _ => ag_bV (call 91 [.inr (some a17), .inr x13, .inr x14, .inl (x16 - (ag_lit 1))] h9) fun h18 =>
      ag_gR h18 x3 6 1 fun x19 =>
      ag_at h18 l0 10 fun a20 _ => ag_bV (call 101 [.inr (some a20), .inr x19, .inr x10, .inl l2] h18) fun h21 =>
      if l2 = (ag_lit 0) then
        f66_103 call x8 x10 (ag_lit 2) h21
      else
        f66_103 call x8 x10 (ag_lit 0) h21
set_option maxRecDepth 100000 in
set_option maxHeartbeats 4000000 in
theorem i66 (call : Nat → List ag_V → ag_H → ag_R) (B : ag_K4) (l0 : Option Nat) (l1 : Int32) (l2 : Int32) (h : ag_H) : ag_in 1 call B t66 0 [some (.inr l0), some (.inl l1), some (.inl l2), none, none, none] [] h = f66 call  l0 l1 l2 h := by
  rfl
set_option maxRecDepth 100000 in
set_option maxHeartbeats 4000000 in
theorem r66 (d : Nat) (l0 : Option Nat) (l1 : Int32) (l2 : Int32) (h : ag_H) : ag_run gT (d + 1) 66 [.inr l0, .inl l1, .inl l2] h = f66 (ag_run gT d)  l0 l1 l2 h := by
  show ag_out 1 (ag_run gT d) t66 4000 0 [some (.inr l0), some (.inl l1), some (.inl l2), none, none, none] [] h = _
  rw [ag_out_top, i66]
def f67_145 (call : Nat → List ag_V → ag_H → ag_R) (b34 : Option Nat → Option Nat → Int32 → Int32 → Int32 → ag_H → ag_R)  (h : ag_H) : ag_R :=
  some (.inl (some (.inl (ag_lit (-1)))), h)
def f67_122 (call : Nat → List ag_V → ag_H → ag_R) (b34 : Option Nat → Option Nat → Int32 → Int32 → Int32 → ag_H → ag_R) (l3 : Option Nat) (l4 : Int32) (h : ag_H) : ag_R :=
  if l4 = (ag_lit 0) then
    f67_145 call b34 h
  else
    ag_gI h l3 3 2 fun x1 =>
    if x1 = (ag_lit 1) then
      some (.inr 2, ag_thr h)
    else
      f67_145 call b34 h
def f67_89 (call : Nat → List ag_V → ag_H → ag_R) (b34 : Option Nat → Option Nat → Int32 → Int32 → Int32 → ag_H → ag_R) (l0 : Option Nat) (l3 : Option Nat) (l4 : Int32) (l6 : Int32) (s0 : Int32) (h : ag_H) : ag_R :=
  if s0 = (ag_lit (-1)) then
    ag_at h l3 3 fun a1 _ => ag_bI (call 23 [.inr (some a1)] h) fun x3 h2 =>
    b34 l0 l3 l4 x3 (l6 + ag_lit 1) h2
  else
    ag_gI h l3 3 5 fun x4 =>
    ag_pF h l3 3 5 (.inl (x4 + (ag_lit 1))) fun h5 =>
    some (.inl (some (.inl s0)), h5)
def f67_34 (call : Nat → List ag_V → ag_H → ag_R) (b34 : Option Nat → Option Nat → Int32 → Int32 → Int32 → ag_H → ag_R) (l0 : Option Nat) (l3 : Option Nat) (l4 : Int32) (l5 : Int32) (l6 : Int32) (h : ag_H) : ag_R :=
  if l5 = (ag_lit 0) then
    f67_122 call b34 l3 l4 h
  else
    if (ag_lit 3) ≤ l6 then
      f67_122 call b34 l3 l4 h
    else
      ag_at h l3 3 fun a1 _ => ag_bI (call 21 [.inr (some a1)] h) fun x3 h2 =>
      ag_at h2 l0 10 fun a4 _ => ag_bR (call 83 [.inr (some a4), .inl x3] h2) fun x6 h5 =>
      ag_at h5 l3 3 fun a7 _ => ag_bI (call 22 [.inr (some a7)] h5) fun x9 h8 =>
      ag_gI h8 l3 3 5 fun x10 =>
      ag_at h8 x6 7 fun a11 _ => ag_bI (call 42 [.inr (some a11), .inl x9, .inl x10] h8) fun x13 h12 =>
      if x13 = (ag_lit 0) then
        ag_gR h12 x6 7 1 fun x14 =>
        ag_at h12 x14 1 fun a15 _ => ag_bI (call 10 [.inr (some a15), .inl (ag_lit8 9)] h12) fun x17 h16 =>
        f67_89 call b34 l0 l3 x13 l6 x17 h16
      else
        f67_89 call b34 l0 l3 x13 l6 (ag_lit (-1)) h12
/-- NameSpaces.read(II)I -/
def f67 (call : Nat → List ag_V → ag_H → ag_R) (b34 : Option Nat → Option Nat → Int32 → Int32 → Int32 → ag_H → ag_R) (l0 : Option Nat) (l1 : Int32) (l2 : Int32) (h : ag_H) : ag_R :=
  ag_at h l0 10 fun a1 _ => ag_bR (call 85 [.inr (some a1), .inl l1, .inl l2] h) fun x3 h2 =>
  ag_gI h2 x3 3 3 fun x4 =>
  if x4 = (ag_lit 1) then
    some (.inr 3, ag_thr h2)
  else
    f67_34 call b34 l0 x3 (ag_lit 0) (ag_lit 1) (ag_lit 0) h2
def g67 (call : Nat → List ag_V → ag_H → ag_R) : Nat → Option Nat → Option Nat → Int32 → Int32 → Int32 → ag_H → ag_R
  | 0 => fun _ _ _ _ _ _ => none
  | n + 1 => f67_34 call (g67 call n)
set_option maxRecDepth 100000 in
set_option maxHeartbeats 4000000 in
theorem i67_34 (call : Nat → List ag_V → ag_H → ag_R) (B : ag_K4) (l0 : Option Nat) (l3 : Option Nat) (l4 : Int32) (l5 : Int32) (l6 : Int32) (h : ag_H) : ag_in 1 call B t67 34 [some (.inr l0), none, none, some (.inr l3), some (.inl l4), some (.inl l5), some (.inl l6), none, none] [] h = f67_34 call (fun (l0 : Option Nat) (l3 : Option Nat) (l4 : Int32) (l5 : Int32) (l6 : Int32) (h : ag_H) => B 34 [some (.inr l0), none, none, some (.inr l3), some (.inl l4), some (.inl l5), some (.inl l6), none, none] [] h) l0 l3 l4 l5 l6 h := by
  rfl
set_option maxRecDepth 100000 in
set_option maxHeartbeats 4000000 in
theorem i67 (call : Nat → List ag_V → ag_H → ag_R) (B : ag_K4) (l0 : Option Nat) (l1 : Int32) (l2 : Int32) (h : ag_H) : ag_in 1 call B t67 0 [some (.inr l0), some (.inl l1), some (.inl l2), none, none, none, none, none, none] [] h = f67 call (fun (l0 : Option Nat) (l3 : Option Nat) (l4 : Int32) (l5 : Int32) (l6 : Int32) (h : ag_H) => B 34 [some (.inr l0), none, none, some (.inr l3), some (.inl l4), some (.inl l5), some (.inl l6), none, none] [] h) l0 l1 l2 h := by
  rfl
set_option maxRecDepth 100000 in
set_option maxHeartbeats 4000000 in
theorem o67 (call : Nat → List ag_V → ag_H → ag_R) : ∀ n : Nat, (fun (l0 : Option Nat) (l3 : Option Nat) (l4 : Int32) (l5 : Int32) (l6 : Int32) (h : ag_H) => (ag_out 1 call t67 n) 34 [some (.inr l0), none, none, some (.inr l3), some (.inl l4), some (.inl l5), some (.inl l6), none, none] [] h) = g67 call n := by
  intro n
  induction n with
  | zero => rfl
  | succ n ih =>
    funext l0 l3 l4 l5 l6 h
    show ag_in 1 call (ag_out 1 call t67 n) t67 34 [some (.inr l0), none, none, some (.inr l3), some (.inl l4), some (.inl l5), some (.inl l6), none, none] [] h = f67_34 call (g67 call n) l0 l3 l4 l5 l6 h
    rw [i67_34, ih]
set_option maxRecDepth 100000 in
set_option maxHeartbeats 4000000 in
theorem r67 (d : Nat) (l0 : Option Nat) (l1 : Int32) (l2 : Int32) (h : ag_H) : ag_run gT (d + 1) 67 [.inr l0, .inl l1, .inl l2] h = f67 (ag_run gT d) (g67 (ag_run gT d) 3999) l0 l1 l2 h := by
  show ag_out 1 (ag_run gT d) t67 4000 0 [some (.inr l0), some (.inl l1), some (.inl l2), none, none, none, none, none, none] [] h = _
  rw [ag_out_top, i67, o67]
def f68_19 (call : Nat → List ag_V → ag_H → ag_R)   (h : ag_H) : ag_R :=
  some (.inr 0, ag_thr h)
/-- NameSpaces.write(III)I -/
def f68 (call : Nat → List ag_V → ag_H → ag_R)  (l0 : Option Nat) (l1 : Int32) (l2 : Int32) (l3 : Int32) (h : ag_H) : ag_R :=
  ag_at h l0 10 fun a1 _ => ag_bR (call 85 [.inr (some a1), .inl l1, .inl l2] h) fun x3 h2 =>
  if l3 < (ag_lit 0) then
    f68_19 call h2
  else
    if l3 ≤ (ag_lit16 255) then
      ag_gI h2 x3 3 3 fun x4 =>
      if x4 = (ag_lit 0) then
        some (.inr 3, ag_thr h2)
      else
        ag_at h2 x3 3 fun a5 _ => ag_bI (call 21 [.inr (some a5)] h2) fun x7 h6 =>
        ag_at h6 l0 10 fun a8 _ => ag_bR (call 83 [.inr (some a8), .inl x7] h6) fun x10 h9 =>
        ag_at h9 x3 3 fun a11 _ => ag_bI (call 22 [.inr (some a11)] h9) fun x13 h12 =>
        ag_gI h12 x3 3 5 fun x14 =>
        ag_at h12 x10 7 fun a15 _ => ag_bI (call 43 [.inr (some a15), .inl x13, .inl x14, .inl l3] h12) fun x17 h16 =>
        if x17 = (ag_lit8 102) then
          some (.inr 1, ag_thr h16)
        else
          if x17 = (ag_lit 0) then
            ag_gI h16 x3 3 5 fun x18 =>
            ag_pF h16 x3 3 5 (.inl (x18 + (ag_lit 1))) fun h19 =>
            ag_gR h19 x10 7 1 fun x20 =>
            ag_at h19 x20 1 fun a21 _ => ag_bI (call 12 [.inr (some a21), .inl (ag_lit8 7)] h19) fun x23 h22 =>
            some (.inl (some (.inl x23)), h22)
          else
            some (.inr 2, ag_thr h16)
    else
      f68_19 call h2
set_option maxRecDepth 100000 in
set_option maxHeartbeats 4000000 in
theorem i68 (call : Nat → List ag_V → ag_H → ag_R) (B : ag_K4) (l0 : Option Nat) (l1 : Int32) (l2 : Int32) (l3 : Int32) (h : ag_H) : ag_in 1 call B t68 0 [some (.inr l0), some (.inl l1), some (.inl l2), some (.inl l3), none, none, none] [] h = f68 call  l0 l1 l2 l3 h := by
  rfl
set_option maxRecDepth 100000 in
set_option maxHeartbeats 4000000 in
theorem r68 (d : Nat) (l0 : Option Nat) (l1 : Int32) (l2 : Int32) (l3 : Int32) (h : ag_H) : ag_run gT (d + 1) 68 [.inr l0, .inl l1, .inl l2, .inl l3] h = f68 (ag_run gT d)  l0 l1 l2 l3 h := by
  show ag_out 1 (ag_run gT d) t68 4000 0 [some (.inr l0), some (.inl l1), some (.inl l2), some (.inl l3), none, none, none] [] h = _
  rw [ag_out_top, i68]
/-- NameSpaces.close(II)I -/
def f69 (call : Nat → List ag_V → ag_H → ag_R)  (l0 : Option Nat) (l1 : Int32) (l2 : Int32) (h : ag_H) : ag_R :=
  ag_at h l0 10 fun a1 _ => ag_bR (call 84 [.inr (some a1), .inl l1] h) fun x3 h2 =>
  ag_at h2 l0 10 fun a4 _ => ag_bR (call 85 [.inr (some a4), .inl l1, .inl l2] h2) fun x6 h5 =>
  ag_at h5 l0 10 fun a7 _ => ag_bV (call 102 [.inr (some a7), .inr x6] h5) fun h8 =>
  ag_at h8 x3 6 fun a9 _ => ag_bI (call 33 [.inr (some a9)] h8) fun x11 h10 =>
  some (.inl (some (.inl x11)), h10)
set_option maxRecDepth 100000 in
set_option maxHeartbeats 4000000 in
theorem i69 (call : Nat → List ag_V → ag_H → ag_R) (B : ag_K4) (l0 : Option Nat) (l1 : Int32) (l2 : Int32) (h : ag_H) : ag_in 1 call B t69 0 [some (.inr l0), some (.inl l1), some (.inl l2), none] [] h = f69 call  l0 l1 l2 h := by
  rfl
set_option maxRecDepth 100000 in
set_option maxHeartbeats 4000000 in
theorem r69 (d : Nat) (l0 : Option Nat) (l1 : Int32) (l2 : Int32) (h : ag_H) : ag_run gT (d + 1) 69 [.inr l0, .inl l1, .inl l2] h = f69 (ag_run gT d)  l0 l1 l2 h := by
  show ag_out 1 (ag_run gT d) t69 4000 0 [some (.inr l0), some (.inl l1), some (.inl l2), none] [] h = _
  rw [ag_out_top, i69]
/-- NameSpaces.remove(I)I -/
def f70 (call : Nat → List ag_V → ag_H → ag_R)  (l0 : Option Nat) (l1 : Int32) (h : ag_H) : ag_R :=
  ag_at h l0 10 fun a1 _ => ag_bR (call 87 [.inr (some a1), .inl l1] h) fun x3 h2 =>
  ag_gR h2 l0 10 5 fun x4 =>
  ag_gI h2 x4 4 2 fun x5 =>
  if x5 = (ag_lit 0) then
    some (.inr 0, ag_thr h2)
  else
    ag_gR h2 l0 10 5 fun x6 =>
    ag_gI h2 x6 4 1 fun x7 =>
    if x7 = (ag_lit 0) then
      some (.inr 3, ag_thr h2)
    else
      ag_gR h2 x3 6 1 fun x8 =>
      ag_gR h2 l0 10 5 fun x9 =>
      ag_gR h2 l0 10 5 fun x10 =>
      ag_gI h2 x10 4 1 fun x11 =>
      ag_at h2 l0 10 fun a12 _ => ag_bV (call 91 [.inr (some a12), .inr x8, .inr x9, .inl x11] h2) fun h13 =>
      ag_gI h13 l0 10 9 fun x14 =>
      ag_at h13 l0 10 fun a15 _ => ag_bR (call 83 [.inr (some a15), .inl x14] h13) fun x17 h16 =>
      ag_gI h16 l0 10 10 fun x18 =>
      ag_at h16 x17 7 fun a19 _ => ag_bI (call 45 [.inr (some a19), .inl x18] h16) fun x21 h20 =>
      if x21 = (ag_lit 0) then
        ag_gI h20 l0 10 11 fun x22 =>
        some (.inl (some (.inl x22)), h20)
      else
        some (.inr 3, ag_thr h20)
set_option maxRecDepth 100000 in
set_option maxHeartbeats 4000000 in
theorem i70 (call : Nat → List ag_V → ag_H → ag_R) (B : ag_K4) (l0 : Option Nat) (l1 : Int32) (h : ag_H) : ag_in 1 call B t70 0 [some (.inr l0), some (.inl l1), none, none] [] h = f70 call  l0 l1 h := by
  rfl
set_option maxRecDepth 100000 in
set_option maxHeartbeats 4000000 in
theorem r70 (d : Nat) (l0 : Option Nat) (l1 : Int32) (h : ag_H) : ag_run gT (d + 1) 70 [.inr l0, .inl l1] h = f70 (ag_run gT d)  l0 l1 h := by
  show ag_out 1 (ag_run gT d) t70 4000 0 [some (.inr l0), some (.inl l1), none, none] [] h = _
  rw [ag_out_top, i70]
/-- NameSpaces.stat(I)I -/
def f71 (call : Nat → List ag_V → ag_H → ag_R)  (l0 : Option Nat) (l1 : Int32) (h : ag_H) : ag_R :=
  ag_at h l0 10 fun a1 _ => ag_bR (call 87 [.inr (some a1), .inl l1] h) fun x3 h2 =>
  ag_gR h2 l0 10 5 fun x4 =>
  ag_gI h2 x4 4 2 fun x5 =>
  if x5 = (ag_lit 0) then
    some (.inr 0, ag_thr h2)
  else
    ag_gR h2 x3 6 1 fun x6 =>
    ag_gR h2 l0 10 5 fun x7 =>
    ag_gR h2 l0 10 5 fun x8 =>
    ag_gI h2 x8 4 1 fun x9 =>
    ag_at h2 l0 10 fun a10 _ => ag_bV (call 91 [.inr (some a10), .inr x6, .inr x7, .inl x9] h2) fun h11 =>
    ag_gI h11 l0 10 9 fun x12 =>
    ag_at h11 l0 10 fun a13 _ => ag_bR (call 83 [.inr (some a13), .inl x12] h11) fun x15 h14 =>
    ag_gI h14 l0 10 10 fun x16 =>
    ag_at h14 x15 7 fun a17 _ => ag_bI (call 46 [.inr (some a17), .inl x16] h14) fun x19 h18 =>
    ag_gR h18 x15 7 1 fun x20 =>
    ag_at h18 x20 1 fun a21 _ => ag_bI (call 10 [.inr (some a21), .inl (ag_lit8 7)] h18) fun x23 h22 =>
    ag_gR h22 x15 7 1 fun x24 =>
    ag_at h22 x24 1 fun a25 _ => ag_bI (call 12 [.inr (some a25), .inl (ag_lit8 12)] h22) fun x27 h26 =>
    ag_gI h26 l0 10 9 fun x28 =>
    ag_gI h26 l0 10 10 fun x29 =>
    ag_at h26 l0 10 fun a30 _ => ag_bV (call 95 [.inr (some a30), .inl x28, .inl x29] h26) fun h31 =>
    ag_gI h31 l0 10 9 fun x32 =>
    some (.inl (some (.inl ((((ag_lit8 100) * x32) + ((ag_lit 2) * x27)) + x23))), h31)
set_option maxRecDepth 100000 in
set_option maxHeartbeats 4000000 in
theorem i71 (call : Nat → List ag_V → ag_H → ag_R) (B : ag_K4) (l0 : Option Nat) (l1 : Int32) (h : ag_H) : ag_in 1 call B t71 0 [some (.inr l0), some (.inl l1), none, none, none, none] [] h = f71 call  l0 l1 h := by
  rfl
set_option maxRecDepth 100000 in
set_option maxHeartbeats 4000000 in
theorem r71 (d : Nat) (l0 : Option Nat) (l1 : Int32) (h : ag_H) : ag_run gT (d + 1) 71 [.inr l0, .inl l1] h = f71 (ag_run gT d)  l0 l1 h := by
  show ag_out 1 (ag_run gT d) t71 4000 0 [some (.inr l0), some (.inl l1), none, none, none, none] [] h = _
  rw [ag_out_top, i71]
def f72_33 (call : Nat → List ag_V → ag_H → ag_R)   (h : ag_H) : ag_R :=
  some (.inr 0, ag_thr h)
/-- NameSpaces.bind(II)I -/
def f72 (call : Nat → List ag_V → ag_H → ag_R)  (l0 : Option Nat) (l1 : Int32) (l2 : Int32) (h : ag_H) : ag_R :=
  ag_at h l0 10 fun a1 _ => ag_bR (call 87 [.inr (some a1), .inl l1] h) fun x3 h2 =>
  ag_gR h2 l0 10 5 fun x4 =>
  ag_gI h2 x4 4 2 fun x5 =>
  if x5 = (ag_lit 0) then
    f72_33 call h2
  else
    ag_gR h2 l0 10 6 fun x6 =>
    ag_gI h2 x6 4 2 fun x7 =>
    if x7 = (ag_lit 0) then
      f72_33 call h2
    else
      ag_bI (call 81 [.inl l2] h2) fun x9 h8 =>
      if x9 = (ag_lit 0) then
        f72_33 call h8
      else
        ag_gR h8 x3 6 1 fun x10 =>
        ag_gR h8 l0 10 6 fun x11 =>
        ag_gR h8 l0 10 6 fun x12 =>
        ag_gI h8 x12 4 1 fun x13 =>
        ag_at h8 l0 10 fun a14 _ => ag_bV (call 91 [.inr (some a14), .inr x10, .inr x11, .inl x13] h8) fun h15 =>
        ag_gI h15 l0 10 12 fun x16 =>
        if x16 = (ag_lit 0) then
          ag_gI h15 l0 10 9 fun x25 =>
          ag_gI h15 l0 10 10 fun x26 =>
          ag_at h15 l0 10 fun a27 _ => ag_bV (call 95 [.inr (some a27), .inl x25, .inl x26] h15) fun h28 =>
          some (.inr 3, ag_thr h28)
        else
          ag_at h15 l0 10 fun a17 _ => ag_bI (call 97 [.inr (some a17)] h15) fun x19 h18 =>
          ag_gR h18 x3 6 1 fun x20 =>
          ag_gI h18 l0 10 9 fun x21 =>
          ag_at h18 l0 10 fun a22 _ => ag_bI (call 103 [.inr (some a22), .inr x20, .inl x21, .inl x19, .inl l2] h18) fun x24 h23 =>
          some (.inl (some (.inl x24)), h23)
set_option maxRecDepth 100000 in
set_option maxHeartbeats 4000000 in
theorem i72 (call : Nat → List ag_V → ag_H → ag_R) (B : ag_K4) (l0 : Option Nat) (l1 : Int32) (l2 : Int32) (h : ag_H) : ag_in 1 call B t72 0 [some (.inr l0), some (.inl l1), some (.inl l2), none, none] [] h = f72 call  l0 l1 l2 h := by
  rfl
set_option maxRecDepth 100000 in
set_option maxHeartbeats 4000000 in
theorem r72 (d : Nat) (l0 : Option Nat) (l1 : Int32) (l2 : Int32) (h : ag_H) : ag_run gT (d + 1) 72 [.inr l0, .inl l1, .inl l2] h = f72 (ag_run gT d)  l0 l1 l2 h := by
  show ag_out 1 (ag_run gT d) t72 4000 0 [some (.inr l0), some (.inl l1), some (.inl l2), none, none] [] h = _
  rw [ag_out_top, i72]
def f73_31 (call : Nat → List ag_V → ag_H → ag_R)   (h : ag_H) : ag_R :=
  some (.inr 0, ag_thr h)
/-- NameSpaces.mount(III)I -/
def f73 (call : Nat → List ag_V → ag_H → ag_R)  (l0 : Option Nat) (l1 : Int32) (l2 : Int32) (l3 : Int32) (h : ag_H) : ag_R :=
  ag_at h l0 10 fun a1 _ => ag_bR (call 87 [.inr (some a1), .inl l1] h) fun x3 h2 =>
  ag_gR h2 l0 10 5 fun x4 =>
  ag_gI h2 x4 4 2 fun x5 =>
  if x5 = (ag_lit 0) then
    f73_31 call h2
  else
    ag_bI (call 80 [.inl l2] h2) fun x7 h6 =>
    if x7 = (ag_lit 0) then
      f73_31 call h6
    else
      ag_bI (call 81 [.inl l3] h6) fun x9 h8 =>
      if x9 = (ag_lit 0) then
        f73_31 call h8
      else
        ag_at h8 l0 10 fun a10 _ => ag_bR (call 83 [.inr (some a10), .inl l2] h8) fun x12 h11 =>
        ag_at h11 x12 7 fun a13 _ => ag_bI (call 35 [.inr (some a13)] h11) fun x15 h14 =>
        ag_at h14 x12 7 fun a16 _ => ag_bV (call 37 [.inr (some a16), .inl x15] h14) fun h17 =>
        ag_gR h17 x3 6 1 fun x18 =>
        ag_at h17 l0 10 fun a19 _ => ag_bI (call 103 [.inr (some a19), .inr x18, .inl l2, .inl x15, .inl l3] h17) fun x21 h20 =>
        some (.inl (some (.inl x21)), h20)
set_option maxRecDepth 100000 in
set_option maxHeartbeats 4000000 in
theorem i73 (call : Nat → List ag_V → ag_H → ag_R) (B : ag_K4) (l0 : Option Nat) (l1 : Int32) (l2 : Int32) (l3 : Int32) (h : ag_H) : ag_in 1 call B t73 0 [some (.inr l0), some (.inl l1), some (.inl l2), some (.inl l3), none, none, none] [] h = f73 call  l0 l1 l2 l3 h := by
  rfl
set_option maxRecDepth 100000 in
set_option maxHeartbeats 4000000 in
theorem r73 (d : Nat) (l0 : Option Nat) (l1 : Int32) (l2 : Int32) (l3 : Int32) (h : ag_H) : ag_run gT (d + 1) 73 [.inr l0, .inl l1, .inl l2, .inl l3] h = f73 (ag_run gT d)  l0 l1 l2 l3 h := by
  show ag_out 1 (ag_run gT d) t73 4000 0 [some (.inr l0), some (.inl l1), some (.inl l2), some (.inl l3), none, none, none] [] h = _
  rw [ag_out_top, i73]
/-- NameSpaces.unmount(I)I -/
def f74 (call : Nat → List ag_V → ag_H → ag_R)  (l0 : Option Nat) (l1 : Int32) (h : ag_H) : ag_R :=
  ag_at h l0 10 fun a1 _ => ag_bR (call 87 [.inr (some a1), .inl l1] h) fun x3 h2 =>
  ag_gR h2 l0 10 5 fun x4 =>
  ag_gI h2 x4 4 2 fun x5 =>
  if x5 = (ag_lit 0) then
    some (.inr 0, ag_thr h2)
  else
    ag_gR h2 x3 6 1 fun x6 =>
    ag_gR h2 l0 10 5 fun x7 =>
    ag_gR h2 l0 10 5 fun x8 =>
    ag_gI h2 x8 4 1 fun x9 =>
    ag_at h2 l0 10 fun a10 _ => ag_bV (call 91 [.inr (some a10), .inr x6, .inr x7, .inl x9] h2) fun h11 =>
    ag_gR h11 x3 6 1 fun x12 =>
    ag_gI h11 l0 10 9 fun x13 =>
    ag_gI h11 l0 10 11 fun x14 =>
    ag_at h11 x12 2 fun a15 _ => ag_bI (call 14 [.inr (some a15), .inl x13, .inl x14] h11) fun x17 h16 =>
    ag_gR h16 x3 6 1 fun x18 =>
    ag_at h16 x18 2 fun a19 _ => ag_bR (call 15 [.inr (some a19), .inl x17] h16) fun x21 h20 =>
    if x21 = none then
      ag_gI h20 l0 10 9 fun x34 =>
      ag_gI h20 l0 10 10 fun x35 =>
      ag_at h20 l0 10 fun a36 _ => ag_bV (call 95 [.inr (some a36), .inl x34, .inl x35] h20) fun h37 =>
      some (.inr 3, ag_thr h37)
    else
      ag_gR h20 x21 5 0 fun x22 =>
      ag_at h20 l0 10 fun a23 _ => ag_bV (call 96 [.inr (some a23), .inr x22] h20) fun h24 =>
      ag_gI h24 l0 10 9 fun x25 =>
      ag_gI h24 l0 10 10 fun x26 =>
      ag_at h24 l0 10 fun a27 _ => ag_bV (call 95 [.inr (some a27), .inl x25, .inl x26] h24) fun h28 =>
      ag_gR h28 x3 6 1 fun x29 =>
      ag_at h28 x29 2 fun a30 _ => ag_bV (call 17 [.inr (some a30), .inl x17] h28) fun h31 =>
      ag_gR h31 x3 6 1 fun x32 =>
      ag_gI h31 x32 2 1 fun x33 =>
      some (.inl (some (.inl x33)), h31)
set_option maxRecDepth 100000 in
set_option maxHeartbeats 4000000 in
theorem i74 (call : Nat → List ag_V → ag_H → ag_R) (B : ag_K4) (l0 : Option Nat) (l1 : Int32) (h : ag_H) : ag_in 1 call B t74 0 [some (.inr l0), some (.inl l1), none, none, none] [] h = f74 call  l0 l1 h := by
  rfl
set_option maxRecDepth 100000 in
set_option maxHeartbeats 4000000 in
theorem r74 (d : Nat) (l0 : Option Nat) (l1 : Int32) (h : ag_H) : ag_run gT (d + 1) 74 [.inr l0, .inl l1] h = f74 (ag_run gT d)  l0 l1 h := by
  show ag_out 1 (ag_run gT d) t74 4000 0 [some (.inr l0), some (.inl l1), none, none, none] [] h = _
  rw [ag_out_top, i74]
def f75_64 (call : Nat → List ag_V → ag_H → ag_R)  (l0 : Option Nat) (l4 : Int32) (l5 : Option Nat) (h : ag_H) : ag_R :=
  ag_gR h l0 10 2 fun x1 =>
  ag_xR h x1 105 l4 fun x2 =>
  ag_at h x2 6 fun a3 _ => ag_bV (call 30 [.inr (some a3), .inr l5] h) fun h4 =>
  some (.inl (some (.inl l4)), h4)
def f75_39 (call : Nat → List ag_V → ag_H → ag_R)   (h : ag_H) : ag_R :=
  some (.inr 1, ag_thr h)
def f75_27 (call : Nat → List ag_V → ag_H → ag_R)  (l0 : Option Nat) (l2 : Int32) (l3 : Option Nat) (l4 : Int32) (s0 : Option Nat) (h : ag_H) : ag_R :=
  if l4 < (ag_lit 0) then
    f75_39 call h
  else
    if s0 = none then
      f75_39 call h
    else
      if l2 = (ag_lit 0) then
        ag_gR h l3 6 1 fun x1 =>
        ag_at h l0 10 fun a2 _ => ag_bV (call 110 [.inr (some a2), .inr x1, .inr s0] h) fun h3 =>
        f75_64 call l0 l4 s0 h3
      else
        f75_64 call l0 l4 s0 h
/-- NameSpaces.fork(IZ)I -/
def f75 (call : Nat → List ag_V → ag_H → ag_R)  (l0 : Option Nat) (l1 : Int32) (l2 : Int32) (h : ag_H) : ag_R :=
  ag_at h l0 10 fun a1 _ => ag_bR (call 84 [.inr (some a1), .inl l1] h) fun x3 h2 =>
  ag_at h2 l0 10 fun a4 _ => ag_bI (call 107 [.inr (some a4)] h2) fun x6 h5 =>
  if l2 = (ag_lit 0) then
    ag_at h5 l0 10 fun a7 _ => ag_bR (call 109 [.inr (some a7)] h5) fun x9 h8 =>
    f75_27 call l0 l2 x3 x6 x9 h8
  else
    ag_gR h5 x3 6 1 fun x10 =>
    f75_27 call l0 l2 x3 x6 x10 h5
set_option maxRecDepth 100000 in
set_option maxHeartbeats 4000000 in
theorem i75 (call : Nat → List ag_V → ag_H → ag_R) (B : ag_K4) (l0 : Option Nat) (l1 : Int32) (l2 : Int32) (h : ag_H) : ag_in 1 call B t75 0 [some (.inr l0), some (.inl l1), some (.inl l2), none, none, none] [] h = f75 call  l0 l1 l2 h := by
  rfl
set_option maxRecDepth 100000 in
set_option maxHeartbeats 4000000 in
theorem r75 (d : Nat) (l0 : Option Nat) (l1 : Int32) (l2 : Int32) (h : ag_H) : ag_run gT (d + 1) 75 [.inr l0, .inl l1, .inl l2] h = f75 (ag_run gT d)  l0 l1 l2 h := by
  show ag_out 1 (ag_run gT d) t75 4000 0 [some (.inr l0), some (.inl l1), some (.inl l2), none, none, none] [] h = _
  rw [ag_out_top, i75]
def f76_77 (call : Nat → List ag_V → ag_H → ag_R) (b23 : Option Nat → Option Nat → Int32 → ag_H → ag_R) (l0 : Option Nat) (h : ag_H) : ag_R :=
  ag_at h l0 10 fun a1 _ => ag_bI (call 108 [.inr (some a1)] h) fun x3 h2 =>
  some (.inl (some (.inl x3)), h2)
def f76_50 (call : Nat → List ag_V → ag_H → ag_R) (b23 : Option Nat → Option Nat → Int32 → ag_H → ag_R) (l0 : Option Nat) (l2 : Option Nat) (l3 : Int32) (h : ag_H) : ag_R :=
  b23 l0 l2 (l3 + ag_lit 1) h
def f76_23 (call : Nat → List ag_V → ag_H → ag_R) (b23 : Option Nat → Option Nat → Int32 → ag_H → ag_R) (l0 : Option Nat) (l2 : Option Nat) (l3 : Int32) (h : ag_H) : ag_R :=
  if (ag_lit 5) ≤ l3 then
    ag_gR h l2 6 1 fun x1 =>
    ag_at h l2 6 fun a2 _ => ag_bV (call 31 [.inr (some a2)] h) fun h3 =>
    ag_gI h3 x1 2 2 fun x4 =>
    if x4 = (ag_lit 0) then
      ag_at h3 l0 10 fun a5 _ => ag_bV (call 111 [.inr (some a5), .inr x1] h3) fun h6 =>
      f76_77 call b23 l0 h6
    else
      f76_77 call b23 l0 h3
  else
    ag_gR h l2 6 0 fun x7 =>
    ag_xR h x7 108 l3 fun x8 =>
    ag_gI h x8 3 1 fun x9 =>
    if x9 = (ag_lit 0) then
      f76_50 call b23 l0 l2 l3 h
    else
      ag_gR h l2 6 0 fun x10 =>
      ag_xR h x10 108 l3 fun x11 =>
      ag_at h l0 10 fun a12 _ => ag_bV (call 102 [.inr (some a12), .inr x11] h) fun h13 =>
      f76_50 call b23 l0 l2 l3 h13
/-- NameSpaces.exit(I)I -/
def f76 (call : Nat → List ag_V → ag_H → ag_R) (b23 : Option Nat → Option Nat → Int32 → ag_H → ag_R) (l0 : Option Nat) (l1 : Int32) (h : ag_H) : ag_R :=
  ag_at h l0 10 fun a1 _ => ag_bR (call 84 [.inr (some a1), .inl l1] h) fun x3 h2 =>
  if l1 = (ag_lit 0) then
    some (.inr 0, ag_thr h2)
  else
    f76_23 call b23 l0 x3 (ag_lit 0) h2
def g76 (call : Nat → List ag_V → ag_H → ag_R) : Nat → Option Nat → Option Nat → Int32 → ag_H → ag_R
  | 0 => fun _ _ _ _ => none
  | n + 1 => f76_23 call (g76 call n)
set_option maxRecDepth 100000 in
set_option maxHeartbeats 4000000 in
theorem i76_23 (call : Nat → List ag_V → ag_H → ag_R) (B : ag_K4) (l0 : Option Nat) (l2 : Option Nat) (l3 : Int32) (h : ag_H) : ag_in 1 call B t76 23 [some (.inr l0), none, some (.inr l2), some (.inl l3)] [] h = f76_23 call (fun (l0 : Option Nat) (l2 : Option Nat) (l3 : Int32) (h : ag_H) => B 23 [some (.inr l0), none, some (.inr l2), some (.inl l3)] [] h) l0 l2 l3 h := by
  rfl
set_option maxRecDepth 100000 in
set_option maxHeartbeats 4000000 in
theorem i76 (call : Nat → List ag_V → ag_H → ag_R) (B : ag_K4) (l0 : Option Nat) (l1 : Int32) (h : ag_H) : ag_in 1 call B t76 0 [some (.inr l0), some (.inl l1), none, none] [] h = f76 call (fun (l0 : Option Nat) (l2 : Option Nat) (l3 : Int32) (h : ag_H) => B 23 [some (.inr l0), none, some (.inr l2), some (.inl l3)] [] h) l0 l1 h := by
  rfl
set_option maxRecDepth 100000 in
set_option maxHeartbeats 4000000 in
theorem o76 (call : Nat → List ag_V → ag_H → ag_R) : ∀ n : Nat, (fun (l0 : Option Nat) (l2 : Option Nat) (l3 : Int32) (h : ag_H) => (ag_out 1 call t76 n) 23 [some (.inr l0), none, some (.inr l2), some (.inl l3)] [] h) = g76 call n := by
  intro n
  induction n with
  | zero => rfl
  | succ n ih =>
    funext l0 l2 l3 h
    show ag_in 1 call (ag_out 1 call t76 n) t76 23 [some (.inr l0), none, some (.inr l2), some (.inl l3)] [] h = f76_23 call (g76 call n) l0 l2 l3 h
    rw [i76_23, ih]
set_option maxRecDepth 100000 in
set_option maxHeartbeats 4000000 in
theorem r76 (d : Nat) (l0 : Option Nat) (l1 : Int32) (h : ag_H) : ag_run gT (d + 1) 76 [.inr l0, .inl l1] h = f76 (ag_run gT d) (g76 (ag_run gT d) 3999) l0 l1 h := by
  show ag_out 1 (ag_run gT d) t76 4000 0 [some (.inr l0), some (.inl l1), none, none] [] h = _
  rw [ag_out_top, i76, o76]
def f77_40 (call : Nat → List ag_V → ag_H → ag_R)  (s0 : Int32) (h : ag_H) : ag_R :=
  some (.inl (some (.inl s0)), h)
/-- NameSpaces.wire(II)I -/
def f77 (call : Nat → List ag_V → ag_H → ag_R)  (l0 : Option Nat) (l1 : Int32) (l2 : Int32) (h : ag_H) : ag_R :=
  ag_gR h l0 10 0 fun x1 =>
  ag_gI h l0 10 8 fun x2 =>
  ag_xR h x1 103 x2 fun x3 =>
  if l1 = (ag_lit 0) then
    ag_gR h x3 7 0 fun x8 =>
    ag_at h x8 1 fun a9 _ => ag_bI (call 11 [.inr (some a9), .inl l2] h) fun x11 h10 =>
    some (.inl (some (.inl x11)), h10)
  else
    if l1 = (ag_lit 1) then
      ag_gR h x3 7 1 fun x4 =>
      ag_at h x4 1 fun a5 _ => ag_bI (call 11 [.inr (some a5), .inl l2] h) fun x7 h6 =>
      f77_40 call x7 h6
    else
      f77_40 call (ag_lit (-1)) h
set_option maxRecDepth 100000 in
set_option maxHeartbeats 4000000 in
theorem i77 (call : Nat → List ag_V → ag_H → ag_R) (B : ag_K4) (l0 : Option Nat) (l1 : Int32) (l2 : Int32) (h : ag_H) : ag_in 1 call B t77 0 [some (.inr l0), some (.inl l1), some (.inl l2), none] [] h = f77 call  l0 l1 l2 h := by
  rfl
set_option maxRecDepth 100000 in
set_option maxHeartbeats 4000000 in
theorem r77 (d : Nat) (l0 : Option Nat) (l1 : Int32) (l2 : Int32) (h : ag_H) : ag_run gT (d + 1) 77 [.inr l0, .inl l1, .inl l2] h = f77 (ag_run gT d)  l0 l1 l2 h := by
  show ag_out 1 (ag_run gT d) t77 4000 0 [some (.inr l0), some (.inl l1), some (.inl l2), none] [] h = _
  rw [ag_out_top, i77]
/-- NameSpaces.server(II)I -/
def f78 (call : Nat → List ag_V → ag_H → ag_R)  (l0 : Option Nat) (l1 : Int32) (l2 : Int32) (h : ag_H) : ag_R :=
  ag_bI (call 80 [.inl l1] h) fun x2 h1 =>
  if x2 = (ag_lit 0) then
    some (.inl (some (.inl (ag_lit (-1)))), h1)
  else
    ag_gR h1 l0 10 0 fun x3 =>
    ag_xR h1 x3 103 l1 fun x4 =>
    ag_sw l2 0 [ag_gR h1 x4 7 0 fun x5 =>
      ag_gI h1 x5 1 2 fun x6 =>
      some (.inl (some (.inl x6)), h1),
      ag_at h1 x4 7 fun a7 _ => ag_bI (call 36 [.inr (some a7)] h1) fun x9 h8 =>
      some (.inl (some (.inl x9)), h8),
      ag_gI h1 x4 7 4 fun x10 =>
      some (.inl (some (.inl x10)), h1),
      ag_gI h1 x4 7 5 fun x11 =>
      some (.inl (some (.inl x11)), h1)]
      (some (.inl (some (.inl (ag_lit (-1)))), h1))
set_option maxRecDepth 100000 in
set_option maxHeartbeats 4000000 in
theorem i78 (call : Nat → List ag_V → ag_H → ag_R) (B : ag_K4) (l0 : Option Nat) (l1 : Int32) (l2 : Int32) (h : ag_H) : ag_in 1 call B t78 0 [some (.inr l0), some (.inl l1), some (.inl l2), none] [] h = f78 call  l0 l1 l2 h := by
  rfl
set_option maxRecDepth 100000 in
set_option maxHeartbeats 4000000 in
theorem r78 (d : Nat) (l0 : Option Nat) (l1 : Int32) (l2 : Int32) (h : ag_H) : ag_run gT (d + 1) 78 [.inr l0, .inl l1, .inl l2] h = f78 (ag_run gT d)  l0 l1 l2 h := by
  show ag_out 1 (ag_run gT d) t78 4000 0 [some (.inr l0), some (.inl l1), some (.inl l2), none] [] h = _
  rw [ag_out_top, i78]
def f79_18 (call : Nat → List ag_V → ag_H → ag_R)   (h : ag_H) : ag_R :=
  some (.inl (some (.inl (ag_lit (-1)))), h)
/-- NameSpaces.process(II)I -/
def f79 (call : Nat → List ag_V → ag_H → ag_R)  (l0 : Option Nat) (l1 : Int32) (l2 : Int32) (h : ag_H) : ag_R :=
  if l1 < (ag_lit 0) then
    f79_18 call h
  else
    if (ag_lit 4) ≤ l1 then
      f79_18 call h
    else
      if l2 < (ag_lit 0) then
        f79_18 call h
      else
        if l2 ≤ (ag_lit 3) then
          ag_gR h l0 10 2 fun x1 =>
          ag_xR h x1 105 l1 fun x2 =>
          ag_gR h x2 6 1 fun x3 =>
          if x3 = none then
            some (.inl (some (.inl (ag_lit 0))), h)
          else
            ag_sw l2 0 [some (.inl (some (.inl (ag_lit 1))), h),
              ag_at h x2 6 fun a4 _ => ag_bI (call 33 [.inr (some a4)] h) fun x6 h5 =>
              some (.inl (some (.inl x6)), h5),
              ag_gI h x3 2 1 fun x7 =>
              some (.inl (some (.inl x7)), h)]
              (ag_at h x3 2 fun a8 _ => ag_bI (call 18 [.inr (some a8)] h) fun x10 h9 =>
              some (.inl (some (.inl x10)), h9))
        else
          f79_18 call h
set_option maxRecDepth 100000 in
set_option maxHeartbeats 4000000 in
theorem i79 (call : Nat → List ag_V → ag_H → ag_R) (B : ag_K4) (l0 : Option Nat) (l1 : Int32) (l2 : Int32) (h : ag_H) : ag_in 1 call B t79 0 [some (.inr l0), some (.inl l1), some (.inl l2), none, none] [] h = f79 call  l0 l1 l2 h := by
  rfl
set_option maxRecDepth 100000 in
set_option maxHeartbeats 4000000 in
theorem r79 (d : Nat) (l0 : Option Nat) (l1 : Int32) (l2 : Int32) (h : ag_H) : ag_run gT (d + 1) 79 [.inr l0, .inl l1, .inl l2] h = f79 (ag_run gT d)  l0 l1 l2 h := by
  show ag_out 1 (ag_run gT d) t79 4000 0 [some (.inr l0), some (.inl l1), some (.inl l2), none, none] [] h = _
  rw [ag_out_top, i79]
def f80_14 (call : Nat → List ag_V → ag_H → ag_R)  (s0 : Int32) (h : ag_H) : ag_R :=
  ag_isB s0 (some (.inl (some (.inl s0)), h))
def f80_9 (call : Nat → List ag_V → ag_H → ag_R)   (h : ag_H) : ag_R :=
  f80_14 call (ag_lit 1) h
/-- NameSpaces.isServer(I)Z -/
def f80 (call : Nat → List ag_V → ag_H → ag_R)  (l0 : Int32) (h : ag_H) : ag_R :=
  if l0 = (ag_lit 0) then
    f80_9 call h
  else
    if l0 = (ag_lit 1) then
      f80_9 call h
    else
      f80_14 call (ag_lit 0) h
set_option maxRecDepth 100000 in
set_option maxHeartbeats 4000000 in
theorem i80 (call : Nat → List ag_V → ag_H → ag_R) (B : ag_K4) (l0 : Int32) (h : ag_H) : ag_in 4 call B t80 0 [some (.inl l0)] [] h = f80 call  l0 h := by
  rfl
set_option maxRecDepth 100000 in
set_option maxHeartbeats 4000000 in
theorem r80 (d : Nat) (l0 : Int32) (h : ag_H) : ag_run gT (d + 1) 80 [.inl l0] h = f80 (ag_run gT d)  l0 h := by
  show ag_out 4 (ag_run gT d) t80 4000 0 [some (.inl l0)] [] h = _
  rw [ag_out_top, i80]
def f81_22 (call : Nat → List ag_V → ag_H → ag_R)  (s0 : Int32) (h : ag_H) : ag_R :=
  ag_isB s0 (some (.inl (some (.inl s0)), h))
def f81_21 (call : Nat → List ag_V → ag_H → ag_R)   (h : ag_H) : ag_R :=
  f81_22 call (ag_lit 0) h
/-- NameSpaces.isHow(I)Z -/
def f81 (call : Nat → List ag_V → ag_H → ag_R)  (l0 : Int32) (h : ag_H) : ag_R :=
  if l0 < (ag_lit 0) then
    f81_21 call h
  else
    if (ag_lit8 6) < l0 then
      f81_21 call h
    else
      ag_dv (ag_lit 4) <|
      if (l0 - l0 / (ag_lit 4) * (ag_lit 4)) = (ag_lit 3) then
        f81_21 call h
      else
        f81_22 call (ag_lit 1) h
set_option maxRecDepth 100000 in
set_option maxHeartbeats 4000000 in
theorem i81 (call : Nat → List ag_V → ag_H → ag_R) (B : ag_K4) (l0 : Int32) (h : ag_H) : ag_in 4 call B t81 0 [some (.inl l0)] [] h = f81 call  l0 h := by
  rfl
set_option maxRecDepth 100000 in
set_option maxHeartbeats 4000000 in
theorem r81 (d : Nat) (l0 : Int32) (h : ag_H) : ag_run gT (d + 1) 81 [.inl l0] h = f81 (ag_run gT d)  l0 h := by
  show ag_out 4 (ag_run gT d) t81 4000 0 [some (.inl l0)] [] h = _
  rw [ag_out_top, i81]
def f82_13 (call : Nat → List ag_V → ag_H → ag_R)  (s0 : Int32) (h : ag_H) : ag_R :=
  ag_isB s0 (some (.inl (some (.inl s0)), h))
def f82_12 (call : Nat → List ag_V → ag_H → ag_R)   (h : ag_H) : ag_R :=
  f82_13 call (ag_lit 0) h
/-- NameSpaces.isBeginning(II)Z -/
def f82 (call : Nat → List ag_V → ag_H → ag_R)  (l0 : Int32) (l1 : Int32) (h : ag_H) : ag_R :=
  if l0 = (ag_lit 0) then
    if l1 = (ag_lit 0) then
      f82_13 call (ag_lit 1) h
    else
      f82_12 call h
  else
    f82_12 call h
set_option maxRecDepth 100000 in
set_option maxHeartbeats 4000000 in
theorem i82 (call : Nat → List ag_V → ag_H → ag_R) (B : ag_K4) (l0 : Int32) (l1 : Int32) (h : ag_H) : ag_in 4 call B t82 0 [some (.inl l0), some (.inl l1)] [] h = f82 call  l0 l1 h := by
  rfl
set_option maxRecDepth 100000 in
set_option maxHeartbeats 4000000 in
theorem r82 (d : Nat) (l0 : Int32) (l1 : Int32) (h : ag_H) : ag_run gT (d + 1) 82 [.inl l0, .inl l1] h = f82 (ag_run gT d)  l0 l1 h := by
  show ag_out 4 (ag_run gT d) t82 4000 0 [some (.inl l0), some (.inl l1)] [] h = _
  rw [ag_out_top, i82]
def f83_11 (call : Nat → List ag_V → ag_H → ag_R)  (l0 : Option Nat) (s0 : Option Nat) (s1 : Int32) (h : ag_H) : ag_R :=
  ag_pF h s0 10 8 (.inl s1) fun h1 =>
  ag_gR h1 l0 10 0 fun x2 =>
  ag_gI h1 l0 10 8 fun x3 =>
  ag_xR h1 x2 103 x3 fun x4 =>
  some (.inl (some (.inr x4)), h1)
/-- NameSpaces.to(I)LNameSpaces$Server; -/
def f83 (call : Nat → List ag_V → ag_H → ag_R)  (l0 : Option Nat) (l1 : Int32) (h : ag_H) : ag_R :=
  if l1 = (ag_lit 1) then
    f83_11 call l0 l0 (ag_lit 1) h
  else
    f83_11 call l0 l0 (ag_lit 0) h
set_option maxRecDepth 100000 in
set_option maxHeartbeats 4000000 in
theorem i83 (call : Nat → List ag_V → ag_H → ag_R) (B : ag_K4) (l0 : Option Nat) (l1 : Int32) (h : ag_H) : ag_in 2 call B t83 0 [some (.inr l0), some (.inl l1)] [] h = f83 call  l0 l1 h := by
  rfl
set_option maxRecDepth 100000 in
set_option maxHeartbeats 4000000 in
theorem r83 (d : Nat) (l0 : Option Nat) (l1 : Int32) (h : ag_H) : ag_run gT (d + 1) 83 [.inr l0, .inl l1] h = f83 (ag_run gT d)  l0 l1 h := by
  show ag_out 2 (ag_run gT d) t83 4000 0 [some (.inr l0), some (.inl l1)] [] h = _
  rw [ag_out_top, i83]
def f84_21 (call : Nat → List ag_V → ag_H → ag_R)   (h : ag_H) : ag_R :=
  some (.inr 0, ag_thr h)
/-- NameSpaces.processOf(I)LNameSpaces$Proc; -/
def f84 (call : Nat → List ag_V → ag_H → ag_R)  (l0 : Option Nat) (l1 : Int32) (h : ag_H) : ag_R :=
  if l1 < (ag_lit 0) then
    f84_21 call h
  else
    if (ag_lit 4) ≤ l1 then
      f84_21 call h
    else
      ag_gR h l0 10 2 fun x1 =>
      ag_xR h x1 105 l1 fun x2 =>
      ag_gR h x2 6 1 fun x3 =>
      if x3 = none then
        f84_21 call h
      else
        ag_gR h l0 10 2 fun x4 =>
        ag_xR h x4 105 l1 fun x5 =>
        some (.inl (some (.inr x5)), h)
set_option maxRecDepth 100000 in
set_option maxHeartbeats 4000000 in
theorem i84 (call : Nat → List ag_V → ag_H → ag_R) (B : ag_K4) (l0 : Option Nat) (l1 : Int32) (h : ag_H) : ag_in 2 call B t84 0 [some (.inr l0), some (.inl l1)] [] h = f84 call  l0 l1 h := by
  rfl
set_option maxRecDepth 100000 in
set_option maxHeartbeats 4000000 in
theorem r84 (d : Nat) (l0 : Option Nat) (l1 : Int32) (h : ag_H) : ag_run gT (d + 1) 84 [.inr l0, .inl l1] h = f84 (ag_run gT d)  l0 l1 h := by
  show ag_out 2 (ag_run gT d) t84 4000 0 [some (.inr l0), some (.inl l1)] [] h = _
  rw [ag_out_top, i84]
def f85_27 (call : Nat → List ag_V → ag_H → ag_R)   (h : ag_H) : ag_R :=
  some (.inr 0, ag_thr h)
/-- NameSpaces.openedFile(II)LNameSpaces$OpenFile; -/
def f85 (call : Nat → List ag_V → ag_H → ag_R)  (l0 : Option Nat) (l1 : Int32) (l2 : Int32) (h : ag_H) : ag_R :=
  ag_at h l0 10 fun a1 _ => ag_bR (call 84 [.inr (some a1), .inl l1] h) fun x3 h2 =>
  if l2 < (ag_lit 0) then
    f85_27 call h2
  else
    if (ag_lit 5) ≤ l2 then
      f85_27 call h2
    else
      ag_gR h2 x3 6 0 fun x4 =>
      ag_xR h2 x4 108 l2 fun x5 =>
      ag_gI h2 x5 3 1 fun x6 =>
      if x6 = (ag_lit 0) then
        f85_27 call h2
      else
        ag_gR h2 x3 6 0 fun x7 =>
        ag_xR h2 x7 108 l2 fun x8 =>
        some (.inl (some (.inr x8)), h2)
set_option maxRecDepth 100000 in
set_option maxHeartbeats 4000000 in
theorem i85 (call : Nat → List ag_V → ag_H → ag_R) (B : ag_K4) (l0 : Option Nat) (l1 : Int32) (l2 : Int32) (h : ag_H) : ag_in 2 call B t85 0 [some (.inr l0), some (.inl l1), some (.inl l2), none] [] h = f85 call  l0 l1 l2 h := by
  rfl
set_option maxRecDepth 100000 in
set_option maxHeartbeats 4000000 in
theorem r85 (d : Nat) (l0 : Option Nat) (l1 : Int32) (l2 : Int32) (h : ag_H) : ag_run gT (d + 1) 85 [.inr l0, .inl l1, .inl l2] h = f85 (ag_run gT d)  l0 l1 l2 h := by
  show ag_out 2 (ag_run gT d) t85 4000 0 [some (.inr l0), some (.inl l1), some (.inl l2), none] [] h = _
  rw [ag_out_top, i85]
def f86_9 (call : Nat → List ag_V → ag_H → ag_R)   (h : ag_H) : ag_R :=
  some (.inr 1, ag_thr h)
/-- NameSpaces.rowFor(LNameSpaces$Proc;I)LNameSpaces$OpenFile; -/
def f86 (call : Nat → List ag_V → ag_H → ag_R)  (l0 : Option Nat) (l1 : Int32) (h : ag_H) : ag_R :=
  if l1 < (ag_lit 0) then
    f86_9 call h
  else
    if l1 < (ag_lit 5) then
      ag_gR h l0 6 0 fun x1 =>
      ag_xR h x1 108 l1 fun x2 =>
      some (.inl (some (.inr x2)), h)
    else
      f86_9 call h
set_option maxRecDepth 100000 in
set_option maxHeartbeats 4000000 in
theorem i86 (call : Nat → List ag_V → ag_H → ag_R) (B : ag_K4) (l0 : Option Nat) (l1 : Int32) (h : ag_H) : ag_in 2 call B t86 0 [some (.inr l0), some (.inl l1)] [] h = f86 call  l0 l1 h := by
  rfl
set_option maxRecDepth 100000 in
set_option maxHeartbeats 4000000 in
theorem r86 (d : Nat) (l0 : Option Nat) (l1 : Int32) (h : ag_H) : ag_run gT (d + 1) 86 [.inr l0, .inl l1] h = f86 (ag_run gT d)  l0 l1 h := by
  show ag_out 2 (ag_run gT d) t86 4000 0 [some (.inr l0), some (.inl l1)] [] h = _
  rw [ag_out_top, i86]
/-- NameSpaces.takePaths(I)LNameSpaces$Proc; -/
def f87 (call : Nat → List ag_V → ag_H → ag_R)  (l0 : Option Nat) (l1 : Int32) (h : ag_H) : ag_R :=
  ag_at h l0 10 fun a1 _ => ag_bR (call 84 [.inr (some a1), .inl l1] h) fun x3 h2 =>
  ag_gR h2 l0 10 5 fun x4 =>
  ag_gR h2 l0 10 3 fun x5 =>
  ag_at h2 x4 4 fun a6 _ => ag_bV (call 25 [.inr (some a6), .inr x5] h2) fun h7 =>
  ag_gR h7 l0 10 6 fun x8 =>
  ag_gR h7 l0 10 4 fun x9 =>
  ag_at h7 x8 4 fun a10 _ => ag_bV (call 25 [.inr (some a10), .inr x9] h7) fun h11 =>
  ag_gR h11 l0 10 3 fun x12 =>
  ag_pF h11 x12 8 1 (.inl (ag_lit 0)) fun h13 =>
  ag_gR h13 l0 10 4 fun x14 =>
  ag_pF h13 x14 8 1 (.inl (ag_lit 0)) fun h15 =>
  some (.inl (some (.inr x3)), h15)
set_option maxRecDepth 100000 in
set_option maxHeartbeats 4000000 in
theorem i87 (call : Nat → List ag_V → ag_H → ag_R) (B : ag_K4) (l0 : Option Nat) (l1 : Int32) (h : ag_H) : ag_in 2 call B t87 0 [some (.inr l0), some (.inl l1), none] [] h = f87 call  l0 l1 h := by
  rfl
set_option maxRecDepth 100000 in
set_option maxHeartbeats 4000000 in
theorem r87 (d : Nat) (l0 : Option Nat) (l1 : Int32) (h : ag_H) : ag_run gT (d + 1) 87 [.inr l0, .inl l1] h = f87 (ag_run gT d)  l0 l1 h := by
  show ag_out 2 (ag_run gT d) t87 4000 0 [some (.inr l0), some (.inl l1), none] [] h = _
  rw [ag_out_top, i87]
/-- NameSpaces.refuseWalk(C)V -/
def f88 (call : Nat → List ag_V → ag_H → ag_R)  (l0 : Int32) (h : ag_H) : ag_R :=
  if l0 = (ag_lit8 100) then
    some (.inr 3, ag_thr h)
  else
    some (.inr 2, ag_thr h)
set_option maxRecDepth 100000 in
set_option maxHeartbeats 4000000 in
theorem i88 (call : Nat → List ag_V → ag_H → ag_R) (B : ag_K4) (l0 : Int32) (h : ag_H) : ag_in 0 call B t88 0 [some (.inl l0)] [] h = f88 call  l0 h := by
  rfl
set_option maxRecDepth 100000 in
set_option maxHeartbeats 4000000 in
theorem r88 (d : Nat) (l0 : Int32) (h : ag_H) : ag_run gT (d + 1) 88 [.inl l0] h = f88 (ag_run gT d)  l0 h := by
  show ag_out 0 (ag_run gT d) t88 4000 0 [some (.inl l0)] [] h = _
  rw [ag_out_top, i88]
/-- NameSpaces.refuseOpening(C)V -/
def f89 (call : Nat → List ag_V → ag_H → ag_R)  (l0 : Int32) (h : ag_H) : ag_R :=
  if l0 = (ag_lit8 112) then
    some (.inr 3, ag_thr h)
  else
    some (.inr 2, ag_thr h)
set_option maxRecDepth 100000 in
set_option maxHeartbeats 4000000 in
theorem i89 (call : Nat → List ag_V → ag_H → ag_R) (B : ag_K4) (l0 : Int32) (h : ag_H) : ag_in 0 call B t89 0 [some (.inl l0)] [] h = f89 call  l0 h := by
  rfl
set_option maxRecDepth 100000 in
set_option maxHeartbeats 4000000 in
theorem r89 (d : Nat) (l0 : Int32) (h : ag_H) : ag_run gT (d + 1) 89 [.inl l0] h = f89 (ag_run gT d)  l0 h := by
  show ag_out 0 (ag_run gT d) t89 4000 0 [some (.inl l0)] [] h = _
  rw [ag_out_top, i89]
/-- NameSpaces.refuseMaking(C)V -/
def f90 (call : Nat → List ag_V → ag_H → ag_R)  (l0 : Int32) (h : ag_H) : ag_R :=
  if l0 = (ag_lit8 102) then
    some (.inr 1, ag_thr h)
  else
    if l0 = (ag_lit8 110) then
      some (.inr 2, ag_thr h)
    else
      some (.inr 3, ag_thr h)
set_option maxRecDepth 100000 in
set_option maxHeartbeats 4000000 in
theorem i90 (call : Nat → List ag_V → ag_H → ag_R) (B : ag_K4) (l0 : Int32) (h : ag_H) : ag_in 0 call B t90 0 [some (.inl l0)] [] h = f90 call  l0 h := by
  rfl
set_option maxRecDepth 100000 in
set_option maxHeartbeats 4000000 in
theorem r90 (d : Nat) (l0 : Int32) (h : ag_H) : ag_run gT (d + 1) 90 [.inl l0] h = f90 (ag_run gT d)  l0 h := by
  show ag_out 0 (ag_run gT d) t90 4000 0 [some (.inl l0)] [] h = _
  rw [ag_out_top, i90]
def f91_19 (call : Nat → List ag_V → ag_H → ag_R)   (h : ag_H) : ag_R :=
  some (.inl none, h)
/-- NameSpaces.walkOrRefuse(LNameSpaces$NameSpace;LNameSpaces$Path;I)V -/
def f91 (call : Nat → List ag_V → ag_H → ag_R)  (l0 : Option Nat) (l1 : Option Nat) (l2 : Option Nat) (l3 : Int32) (h : ag_H) : ag_R :=
  ag_at h l0 10 fun a1 _ => ag_bI (call 92 [.inr (some a1), .inr l1, .inr l2, .inl l3] h) fun x3 h2 =>
  if x3 = (ag_lit 0) then
    f91_19 call h2
  else
    ag_bV (call 88 [.inl x3] h2) fun h4 =>
    f91_19 call h4
set_option maxRecDepth 100000 in
set_option maxHeartbeats 4000000 in
theorem i91 (call : Nat → List ag_V → ag_H → ag_R) (B : ag_K4) (l0 : Option Nat) (l1 : Option Nat) (l2 : Option Nat) (l3 : Int32) (h : ag_H) : ag_in 0 call B t91 0 [some (.inr l0), some (.inr l1), some (.inr l2), some (.inl l3), none] [] h = f91 call  l0 l1 l2 l3 h := by
  rfl
set_option maxRecDepth 100000 in
set_option maxHeartbeats 4000000 in
theorem r91 (d : Nat) (l0 : Option Nat) (l1 : Option Nat) (l2 : Option Nat) (l3 : Int32) (h : ag_H) : ag_run gT (d + 1) 91 [.inr l0, .inr l1, .inr l2, .inl l3] h = f91 (ag_run gT d)  l0 l1 l2 l3 h := by
  show ag_out 0 (ag_run gT d) t91 4000 0 [some (.inr l0), some (.inr l1), some (.inr l2), some (.inl l3), none] [] h = _
  rw [ag_out_top, i91]
def f92_80 (call : Nat → List ag_V → ag_H → ag_R) (b26 : Option Nat → Option Nat → Option Nat → Int32 → Int32 → Int32 → ag_H → ag_R) (l4 : Int32) (h : ag_H) : ag_R :=
  ag_isC l4 (some (.inl (some (.inl l4)), h))
def f92_26 (call : Nat → List ag_V → ag_H → ag_R) (b26 : Option Nat → Option Nat → Option Nat → Int32 → Int32 → Int32 → ag_H → ag_R) (l0 : Option Nat) (l1 : Option Nat) (l2 : Option Nat) (l3 : Int32) (l4 : Int32) (l5 : Int32) (h : ag_H) : ag_R :=
  if l3 ≤ l5 then
    f92_80 call b26 l4 h
  else
    if l4 = (ag_lit 0) then
      ag_gI h l0 10 9 fun x1 =>
      ag_gI h l0 10 10 fun x2 =>
      ag_at h l0 10 fun a3 _ => ag_bR (call 93 [.inr (some a3), .inr l1] h) fun x5 h4 =>
      ag_at h4 l2 4 fun a6 _ => ag_bI (call 27 [.inr (some a6), .inl l5] h4) fun x8 h7 =>
      ag_at h7 l0 10 fun a9 _ => ag_bI (call 94 [.inr (some a9), .inr x5, .inl x8] h7) fun x11 h10 =>
      ag_at h10 l0 10 fun a12 _ => ag_bV (call 95 [.inr (some a12), .inl x1, .inl x2] h10) fun h13 =>
      b26 l0 l1 l2 l3 x11 (l5 + ag_lit 1) h13
    else
      f92_80 call b26 l4 h
/-- NameSpaces.walkNames(LNameSpaces$NameSpace;LNameSpaces$Path;I)C -/
def f92 (call : Nat → List ag_V → ag_H → ag_R) (b26 : Option Nat → Option Nat → Option Nat → Int32 → Int32 → Int32 → ag_H → ag_R) (l0 : Option Nat) (l1 : Option Nat) (l2 : Option Nat) (l3 : Int32) (h : ag_H) : ag_R :=
  ag_pF h l0 10 9 (.inl (ag_lit 0)) fun h1 =>
  ag_pF h1 l0 10 10 (.inl (ag_lit 0)) fun h2 =>
  ag_pF h2 l0 10 11 (.inl (ag_lit 0)) fun h3 =>
  ag_isB (ag_lit 1) <| ag_pF h3 l0 10 12 (.inl (ag_lit 1)) fun h4 =>
  f92_26 call b26 l0 l1 l2 l3 (ag_lit 0) (ag_lit 0) h4
def g92 (call : Nat → List ag_V → ag_H → ag_R) : Nat → Option Nat → Option Nat → Option Nat → Int32 → Int32 → Int32 → ag_H → ag_R
  | 0 => fun _ _ _ _ _ _ _ => none
  | n + 1 => f92_26 call (g92 call n)
set_option maxRecDepth 100000 in
set_option maxHeartbeats 4000000 in
theorem i92_26 (call : Nat → List ag_V → ag_H → ag_R) (B : ag_K4) (l0 : Option Nat) (l1 : Option Nat) (l2 : Option Nat) (l3 : Int32) (l4 : Int32) (l5 : Int32) (h : ag_H) : ag_in 3 call B t92 26 [some (.inr l0), some (.inr l1), some (.inr l2), some (.inl l3), some (.inl l4), some (.inl l5), none, none] [] h = f92_26 call (fun (l0 : Option Nat) (l1 : Option Nat) (l2 : Option Nat) (l3 : Int32) (l4 : Int32) (l5 : Int32) (h : ag_H) => B 26 [some (.inr l0), some (.inr l1), some (.inr l2), some (.inl l3), some (.inl l4), some (.inl l5), none, none] [] h) l0 l1 l2 l3 l4 l5 h := by
  rfl
set_option maxRecDepth 100000 in
set_option maxHeartbeats 4000000 in
theorem i92 (call : Nat → List ag_V → ag_H → ag_R) (B : ag_K4) (l0 : Option Nat) (l1 : Option Nat) (l2 : Option Nat) (l3 : Int32) (h : ag_H) : ag_in 3 call B t92 0 [some (.inr l0), some (.inr l1), some (.inr l2), some (.inl l3), none, none, none, none] [] h = f92 call (fun (l0 : Option Nat) (l1 : Option Nat) (l2 : Option Nat) (l3 : Int32) (l4 : Int32) (l5 : Int32) (h : ag_H) => B 26 [some (.inr l0), some (.inr l1), some (.inr l2), some (.inl l3), some (.inl l4), some (.inl l5), none, none] [] h) l0 l1 l2 l3 h := by
  rfl
set_option maxRecDepth 100000 in
set_option maxHeartbeats 4000000 in
theorem o92 (call : Nat → List ag_V → ag_H → ag_R) : ∀ n : Nat, (fun (l0 : Option Nat) (l1 : Option Nat) (l2 : Option Nat) (l3 : Int32) (l4 : Int32) (l5 : Int32) (h : ag_H) => (ag_out 3 call t92 n) 26 [some (.inr l0), some (.inr l1), some (.inr l2), some (.inl l3), some (.inl l4), some (.inl l5), none, none] [] h) = g92 call n := by
  intro n
  induction n with
  | zero => rfl
  | succ n ih =>
    funext l0 l1 l2 l3 l4 l5 h
    show ag_in 3 call (ag_out 3 call t92 n) t92 26 [some (.inr l0), some (.inr l1), some (.inr l2), some (.inl l3), some (.inl l4), some (.inl l5), none, none] [] h = f92_26 call (g92 call n) l0 l1 l2 l3 l4 l5 h
    rw [i92_26, ih]
set_option maxRecDepth 100000 in
set_option maxHeartbeats 4000000 in
theorem r92 (d : Nat) (l0 : Option Nat) (l1 : Option Nat) (l2 : Option Nat) (l3 : Int32) (h : ag_H) : ag_run gT (d + 1) 92 [.inr l0, .inr l1, .inr l2, .inl l3] h = f92 (ag_run gT d) (g92 (ag_run gT d) 3999) l0 l1 l2 l3 h := by
  show ag_out 3 (ag_run gT d) t92 4000 0 [some (.inr l0), some (.inr l1), some (.inr l2), some (.inl l3), none, none, none, none] [] h = _
  rw [ag_out_top, i92, o92]
/-- NameSpaces.standing(LNameSpaces$NameSpace;)LNameSpaces$Handles; -/
def f93 (call : Nat → List ag_V → ag_H → ag_R)  (l0 : Option Nat) (l1 : Option Nat) (h : ag_H) : ag_R :=
  ag_gI h l0 10 9 fun x1 =>
  ag_gI h l0 10 11 fun x2 =>
  ag_at h l1 2 fun a3 _ => ag_bI (call 14 [.inr (some a3), .inl x1, .inl x2] h) fun x5 h4 =>
  ag_at h4 l1 2 fun a6 _ => ag_bR (call 15 [.inr (some a6), .inl x5] h4) fun x8 h7 =>
  if x8 = none then
    ag_gR h7 l0 10 7 fun x9 =>
    ag_pF h7 x9 0 3 (.inl (ag_lit 0)) fun h10 =>
    ag_gR h10 l0 10 7 fun x11 =>
    ag_gI h10 l0 10 9 fun x12 =>
    ag_gI h10 l0 10 10 fun x13 =>
    ag_at h10 x11 0 fun a14 _ => ag_bV (call 1 [.inr (some a14), .inl (ag_lit 0), .inl x12, .inl x13, .inl (ag_lit 1)] h10) fun h15 =>
    ag_gR h15 l0 10 7 fun x16 =>
    some (.inl (some (.inr x16)), h15)
  else
    ag_gR h7 x8 5 0 fun x17 =>
    some (.inl (some (.inr x17)), h7)
set_option maxRecDepth 100000 in
set_option maxHeartbeats 4000000 in
theorem i93 (call : Nat → List ag_V → ag_H → ag_R) (B : ag_K4) (l0 : Option Nat) (l1 : Option Nat) (h : ag_H) : ag_in 2 call B t93 0 [some (.inr l0), some (.inr l1), none] [] h = f93 call  l0 l1 h := by
  rfl
set_option maxRecDepth 100000 in
set_option maxHeartbeats 4000000 in
theorem r93 (d : Nat) (l0 : Option Nat) (l1 : Option Nat) (h : ag_H) : ag_run gT (d + 1) 93 [.inr l0, .inr l1] h = f93 (ag_run gT d)  l0 l1 h := by
  show ag_out 2 (ag_run gT d) t93 4000 0 [some (.inr l0), some (.inr l1), none] [] h = _
  rw [ag_out_top, i93]
def f94_103 (call : Nat → List ag_V → ag_H → ag_R) (b6 : Option Nat → Option Nat → Int32 → Int32 → Int32 → ag_H → ag_R) (s0 : Option Nat) (s1 : Int32) (h : ag_H) : ag_R :=
  ag_isB s1 <| ag_pF h s0 10 12 (.inl s1) fun h1 =>
  ag_isC (ag_lit 0) (some (.inl (some (.inl (ag_lit 0))), h1))
def f94_6 (call : Nat → List ag_V → ag_H → ag_R) (b6 : Option Nat → Option Nat → Int32 → Int32 → Int32 → ag_H → ag_R) (l0 : Option Nat) (l1 : Option Nat) (l2 : Int32) (l3 : Int32) (l4 : Int32) (h : ag_H) : ag_R :=
  ag_gI h l1 0 3 fun x1 =>
  if x1 ≤ l4 then
    ag_isC l3 (some (.inl (some (.inl l3)), h))
  else
    ag_at h l1 0 fun a2 _ => ag_bI (call 3 [.inr (some a2), .inl l4] h) fun x4 h3 =>
    ag_at h3 l0 10 fun a5 _ => ag_bR (call 83 [.inr (some a5), .inl x4] h3) fun x7 h6 =>
    ag_at h6 x7 7 fun a8 _ => ag_bI (call 35 [.inr (some a8)] h6) fun x10 h9 =>
    ag_at h9 l1 0 fun a11 _ => ag_bI (call 4 [.inr (some a11), .inl l4] h9) fun x13 h12 =>
    ag_at h12 x7 7 fun a14 _ => ag_bI (call 39 [.inr (some a14), .inl x13, .inl x10, .inl l2] h12) fun x16 h15 =>
    if x16 = (ag_lit 0) then
      ag_pF h15 l0 10 9 (.inl x4) fun h17 =>
      ag_pF h17 l0 10 10 (.inl x10) fun h18 =>
      ag_gR h18 x7 7 1 fun x19 =>
      ag_at h18 x19 1 fun a20 _ => ag_bI (call 12 [.inr (some a20), .inl (ag_lit8 12)] h18) fun x22 h21 =>
      ag_pF h21 l0 10 11 (.inl x22) fun h23 =>
      ag_gR h23 x7 7 1 fun x24 =>
      ag_at h23 x24 1 fun a25 _ => ag_bI (call 10 [.inr (some a25), .inl (ag_lit8 7)] h23) fun x27 h26 =>
      if x27 = (ag_lit 1) then
        f94_103 call b6 l0 (ag_lit 1) h26
      else
        f94_103 call b6 l0 (ag_lit 0) h26
    else
      b6 l0 l1 l2 x16 (l4 + ag_lit 1) h15
/-- NameSpaces.walkFirst(LNameSpaces$Handles;C)C -/
def f94 (call : Nat → List ag_V → ag_H → ag_R) (b6 : Option Nat → Option Nat → Int32 → Int32 → Int32 → ag_H → ag_R) (l0 : Option Nat) (l1 : Option Nat) (l2 : Int32) (h : ag_H) : ag_R :=
  f94_6 call b6 l0 l1 l2 (ag_lit8 110) (ag_lit 0) h
def g94 (call : Nat → List ag_V → ag_H → ag_R) : Nat → Option Nat → Option Nat → Int32 → Int32 → Int32 → ag_H → ag_R
  | 0 => fun _ _ _ _ _ _ => none
  | n + 1 => f94_6 call (g94 call n)
set_option maxRecDepth 100000 in
set_option maxHeartbeats 4000000 in
theorem i94_6 (call : Nat → List ag_V → ag_H → ag_R) (B : ag_K4) (l0 : Option Nat) (l1 : Option Nat) (l2 : Int32) (l3 : Int32) (l4 : Int32) (h : ag_H) : ag_in 3 call B t94 6 [some (.inr l0), some (.inr l1), some (.inl l2), some (.inl l3), some (.inl l4), none, none, none] [] h = f94_6 call (fun (l0 : Option Nat) (l1 : Option Nat) (l2 : Int32) (l3 : Int32) (l4 : Int32) (h : ag_H) => B 6 [some (.inr l0), some (.inr l1), some (.inl l2), some (.inl l3), some (.inl l4), none, none, none] [] h) l0 l1 l2 l3 l4 h := by
  rfl
set_option maxRecDepth 100000 in
set_option maxHeartbeats 4000000 in
theorem i94 (call : Nat → List ag_V → ag_H → ag_R) (B : ag_K4) (l0 : Option Nat) (l1 : Option Nat) (l2 : Int32) (h : ag_H) : ag_in 3 call B t94 0 [some (.inr l0), some (.inr l1), some (.inl l2), none, none, none, none, none] [] h = f94 call (fun (l0 : Option Nat) (l1 : Option Nat) (l2 : Int32) (l3 : Int32) (l4 : Int32) (h : ag_H) => B 6 [some (.inr l0), some (.inr l1), some (.inl l2), some (.inl l3), some (.inl l4), none, none, none] [] h) l0 l1 l2 h := by
  rfl
set_option maxRecDepth 100000 in
set_option maxHeartbeats 4000000 in
theorem o94 (call : Nat → List ag_V → ag_H → ag_R) : ∀ n : Nat, (fun (l0 : Option Nat) (l1 : Option Nat) (l2 : Int32) (l3 : Int32) (l4 : Int32) (h : ag_H) => (ag_out 3 call t94 n) 6 [some (.inr l0), some (.inr l1), some (.inl l2), some (.inl l3), some (.inl l4), none, none, none] [] h) = g94 call n := by
  intro n
  induction n with
  | zero => rfl
  | succ n ih =>
    funext l0 l1 l2 l3 l4 h
    show ag_in 3 call (ag_out 3 call t94 n) t94 6 [some (.inr l0), some (.inr l1), some (.inl l2), some (.inl l3), some (.inl l4), none, none, none] [] h = f94_6 call (g94 call n) l0 l1 l2 l3 l4 h
    rw [i94_6, ih]
set_option maxRecDepth 100000 in
set_option maxHeartbeats 4000000 in
theorem r94 (d : Nat) (l0 : Option Nat) (l1 : Option Nat) (l2 : Int32) (h : ag_H) : ag_run gT (d + 1) 94 [.inr l0, .inr l1, .inl l2] h = f94 (ag_run gT d) (g94 (ag_run gT d) 3999) l0 l1 l2 h := by
  show ag_out 3 (ag_run gT d) t94 4000 0 [some (.inr l0), some (.inr l1), some (.inl l2), none, none, none, none, none] [] h = _
  rw [ag_out_top, i94, o94]
def f95_17 (call : Nat → List ag_V → ag_H → ag_R)   (h : ag_H) : ag_R :=
  some (.inl none, h)
/-- NameSpaces.letGo(II)V -/
def f95 (call : Nat → List ag_V → ag_H → ag_R)  (l0 : Option Nat) (l1 : Int32) (l2 : Int32) (h : ag_H) : ag_R :=
  ag_bI (call 82 [.inl l1, .inl l2] h) fun x2 h1 =>
  if x2 = (ag_lit 0) then
    ag_at h1 l0 10 fun a3 _ => ag_bR (call 83 [.inr (some a3), .inl l1] h1) fun x5 h4 =>
    ag_at h4 x5 7 fun a6 _ => ag_bV (call 44 [.inr (some a6), .inl l2] h4) fun h7 =>
    f95_17 call h7
  else
    f95_17 call h1
set_option maxRecDepth 100000 in
set_option maxHeartbeats 4000000 in
theorem i95 (call : Nat → List ag_V → ag_H → ag_R) (B : ag_K4) (l0 : Option Nat) (l1 : Int32) (l2 : Int32) (h : ag_H) : ag_in 0 call B t95 0 [some (.inr l0), some (.inl l1), some (.inl l2)] [] h = f95 call  l0 l1 l2 h := by
  rfl
set_option maxRecDepth 100000 in
set_option maxHeartbeats 4000000 in
theorem r95 (d : Nat) (l0 : Option Nat) (l1 : Int32) (l2 : Int32) (h : ag_H) : ag_run gT (d + 1) 95 [.inr l0, .inl l1, .inl l2] h = f95 (ag_run gT d)  l0 l1 l2 h := by
  show ag_out 0 (ag_run gT d) t95 4000 0 [some (.inr l0), some (.inl l1), some (.inl l2)] [] h = _
  rw [ag_out_top, i95]
def f96_2 (call : Nat → List ag_V → ag_H → ag_R) (b2 : Option Nat → Option Nat → Int32 → ag_H → ag_R) (l0 : Option Nat) (l1 : Option Nat) (l2 : Int32) (h : ag_H) : ag_R :=
  ag_gI h l1 0 3 fun x1 =>
  if x1 ≤ l2 then
    some (.inl none, h)
  else
    ag_at h l1 0 fun a2 _ => ag_bI (call 3 [.inr (some a2), .inl l2] h) fun x4 h3 =>
    ag_at h3 l0 10 fun a5 _ => ag_bR (call 83 [.inr (some a5), .inl x4] h3) fun x7 h6 =>
    ag_at h6 l1 0 fun a8 _ => ag_bI (call 4 [.inr (some a8), .inl l2] h6) fun x10 h9 =>
    ag_at h9 x7 7 fun a11 _ => ag_bV (call 44 [.inr (some a11), .inl x10] h9) fun h12 =>
    b2 l0 l1 (l2 + ag_lit 1) h12
/-- NameSpaces.clunkAll(LNameSpaces$Handles;)V -/
def f96 (call : Nat → List ag_V → ag_H → ag_R) (b2 : Option Nat → Option Nat → Int32 → ag_H → ag_R) (l0 : Option Nat) (l1 : Option Nat) (h : ag_H) : ag_R :=
  f96_2 call b2 l0 l1 (ag_lit 0) h
def g96 (call : Nat → List ag_V → ag_H → ag_R) : Nat → Option Nat → Option Nat → Int32 → ag_H → ag_R
  | 0 => fun _ _ _ _ => none
  | n + 1 => f96_2 call (g96 call n)
set_option maxRecDepth 100000 in
set_option maxHeartbeats 4000000 in
theorem i96_2 (call : Nat → List ag_V → ag_H → ag_R) (B : ag_K4) (l0 : Option Nat) (l1 : Option Nat) (l2 : Int32) (h : ag_H) : ag_in 0 call B t96 2 [some (.inr l0), some (.inr l1), some (.inl l2)] [] h = f96_2 call (fun (l0 : Option Nat) (l1 : Option Nat) (l2 : Int32) (h : ag_H) => B 2 [some (.inr l0), some (.inr l1), some (.inl l2)] [] h) l0 l1 l2 h := by
  rfl
set_option maxRecDepth 100000 in
set_option maxHeartbeats 4000000 in
theorem i96 (call : Nat → List ag_V → ag_H → ag_R) (B : ag_K4) (l0 : Option Nat) (l1 : Option Nat) (h : ag_H) : ag_in 0 call B t96 0 [some (.inr l0), some (.inr l1), none] [] h = f96 call (fun (l0 : Option Nat) (l1 : Option Nat) (l2 : Int32) (h : ag_H) => B 2 [some (.inr l0), some (.inr l1), some (.inl l2)] [] h) l0 l1 h := by
  rfl
set_option maxRecDepth 100000 in
set_option maxHeartbeats 4000000 in
theorem o96 (call : Nat → List ag_V → ag_H → ag_R) : ∀ n : Nat, (fun (l0 : Option Nat) (l1 : Option Nat) (l2 : Int32) (h : ag_H) => (ag_out 0 call t96 n) 2 [some (.inr l0), some (.inr l1), some (.inl l2)] [] h) = g96 call n := by
  intro n
  induction n with
  | zero => rfl
  | succ n ih =>
    funext l0 l1 l2 h
    show ag_in 0 call (ag_out 0 call t96 n) t96 2 [some (.inr l0), some (.inr l1), some (.inl l2)] [] h = f96_2 call (g96 call n) l0 l1 l2 h
    rw [i96_2, ih]
set_option maxRecDepth 100000 in
set_option maxHeartbeats 4000000 in
theorem r96 (d : Nat) (l0 : Option Nat) (l1 : Option Nat) (h : ag_H) : ag_run gT (d + 1) 96 [.inr l0, .inr l1] h = f96 (ag_run gT d) (g96 (ag_run gT d) 3999) l0 l1 h := by
  show ag_out 0 (ag_run gT d) t96 4000 0 [some (.inr l0), some (.inr l1), none] [] h = _
  rw [ag_out_top, i96, o96]
def f97_36 (call : Nat → List ag_V → ag_H → ag_R)  (s0 : Int32) (h : ag_H) : ag_R :=
  some (.inl (some (.inl s0)), h)
/-- NameSpaces.ownHandle()I -/
def f97 (call : Nat → List ag_V → ag_H → ag_R)  (l0 : Option Nat) (h : ag_H) : ag_R :=
  ag_gI h l0 10 9 fun x1 =>
  ag_gI h l0 10 10 fun x2 =>
  ag_bI (call 82 [.inl x1, .inl x2] h) fun x4 h3 =>
  if x4 = (ag_lit 0) then
    ag_gI h3 l0 10 10 fun x5 =>
    f97_36 call x5 h3
  else
    ag_gI h3 l0 10 9 fun x6 =>
    ag_at h3 l0 10 fun a7 _ => ag_bR (call 83 [.inr (some a7), .inl x6] h3) fun x9 h8 =>
    ag_gI h8 l0 10 10 fun x10 =>
    ag_at h8 x9 7 fun a11 _ => ag_bI (call 38 [.inr (some a11), .inl x10] h8) fun x13 h12 =>
    f97_36 call x13 h12
set_option maxRecDepth 100000 in
set_option maxHeartbeats 4000000 in
theorem i97 (call : Nat → List ag_V → ag_H → ag_R) (B : ag_K4) (l0 : Option Nat) (h : ag_H) : ag_in 1 call B t97 0 [some (.inr l0)] [] h = f97 call  l0 h := by
  rfl
set_option maxRecDepth 100000 in
set_option maxHeartbeats 4000000 in
theorem r97 (d : Nat) (l0 : Option Nat) (h : ag_H) : ag_run gT (d + 1) 97 [.inr l0] h = f97 (ag_run gT d)  l0 h := by
  show ag_out 1 (ag_run gT d) t97 4000 0 [some (.inr l0)] [] h = _
  rw [ag_out_top, i97]
def f98_64 (call : Nat → List ag_V → ag_H → ag_R)  (l2 : Option Nat) (l3 : Option Nat) (h : ag_H) : ag_R :=
  ag_gI h l3 0 3 fun x1 =>
  ag_pF h l2 3 2 (.inl x1) fun h2 =>
  some (.inl none, h2)
/-- NameSpaces.takeHandles(LNameSpaces$NameSpace;LNameSpaces$OpenFile;)V -/
def f98 (call : Nat → List ag_V → ag_H → ag_R)  (l0 : Option Nat) (l1 : Option Nat) (l2 : Option Nat) (h : ag_H) : ag_R :=
  ag_gR h l2 3 0 fun x1 =>
  ag_pF h x1 0 3 (.inl (ag_lit 0)) fun h2 =>
  ag_gI h2 l0 10 9 fun x3 =>
  ag_gI h2 l0 10 11 fun x4 =>
  ag_at h2 l1 2 fun a5 _ => ag_bI (call 14 [.inr (some a5), .inl x3, .inl x4] h2) fun x7 h6 =>
  if (ag_lit 0) ≤ x7 then
    ag_at h6 l0 10 fun a8 _ => ag_bR (call 93 [.inr (some a8), .inr l1] h6) fun x10 h9 =>
    ag_at h9 l0 10 fun a11 _ => ag_bV (call 99 [.inr (some a11), .inr x10, .inr x1] h9) fun h12 =>
    ag_gI h12 l0 10 9 fun x13 =>
    ag_gI h12 l0 10 10 fun x14 =>
    ag_at h12 l0 10 fun a15 _ => ag_bV (call 95 [.inr (some a15), .inl x13, .inl x14] h12) fun h16 =>
    f98_64 call l2 x1 h16
  else
    ag_gI h6 l0 10 9 fun x17 =>
    ag_at h6 l0 10 fun a18 _ => ag_bI (call 97 [.inr (some a18)] h6) fun x20 h19 =>
    ag_at h19 x1 0 fun a21 _ => ag_bV (call 1 [.inr (some a21), .inl (ag_lit 0), .inl x17, .inl x20, .inl (ag_lit 0)] h19) fun h22 =>
    f98_64 call l2 x1 h22
set_option maxRecDepth 100000 in
set_option maxHeartbeats 4000000 in
theorem i98 (call : Nat → List ag_V → ag_H → ag_R) (B : ag_K4) (l0 : Option Nat) (l1 : Option Nat) (l2 : Option Nat) (h : ag_H) : ag_in 0 call B t98 0 [some (.inr l0), some (.inr l1), some (.inr l2), none] [] h = f98 call  l0 l1 l2 h := by
  rfl
set_option maxRecDepth 100000 in
set_option maxHeartbeats 4000000 in
theorem r98 (d : Nat) (l0 : Option Nat) (l1 : Option Nat) (l2 : Option Nat) (h : ag_H) : ag_run gT (d + 1) 98 [.inr l0, .inr l1, .inr l2] h = f98 (ag_run gT d)  l0 l1 l2 h := by
  show ag_out 0 (ag_run gT d) t98 4000 0 [some (.inr l0), some (.inr l1), some (.inr l2), none] [] h = _
  rw [ag_out_top, i98]
def f99_2 (call : Nat → List ag_V → ag_H → ag_R) (b2 : Option Nat → Option Nat → Option Nat → Int32 → ag_H → ag_R) (l0 : Option Nat) (l1 : Option Nat) (l2 : Option Nat) (l3 : Int32) (h : ag_H) : ag_R :=
  ag_gI h l1 0 3 fun x1 =>
  if x1 ≤ l3 then
    some (.inl none, h)
  else
    ag_at h l1 0 fun a2 _ => ag_bI (call 3 [.inr (some a2), .inl l3] h) fun x4 h3 =>
    ag_gI h3 l2 0 3 fun x5 =>
    ag_at h3 l0 10 fun a6 _ => ag_bR (call 83 [.inr (some a6), .inl x4] h3) fun x8 h7 =>
    ag_at h7 l1 0 fun a9 _ => ag_bI (call 4 [.inr (some a9), .inl l3] h7) fun x11 h10 =>
    ag_at h10 x8 7 fun a12 _ => ag_bI (call 38 [.inr (some a12), .inl x11] h10) fun x14 h13 =>
    ag_at h13 l1 0 fun a15 _ => ag_bI (call 5 [.inr (some a15), .inl l3] h13) fun x17 h16 =>
    ag_at h16 l2 0 fun a18 _ => ag_bV (call 1 [.inr (some a18), .inl x5, .inl x4, .inl x14, .inl x17] h16) fun h19 =>
    b2 l0 l1 l2 (l3 + ag_lit 1) h19
/-- NameSpaces.copyHandles(LNameSpaces$Handles;LNameSpaces$Handles;)V -/
def f99 (call : Nat → List ag_V → ag_H → ag_R) (b2 : Option Nat → Option Nat → Option Nat → Int32 → ag_H → ag_R) (l0 : Option Nat) (l1 : Option Nat) (l2 : Option Nat) (h : ag_H) : ag_R :=
  f99_2 call b2 l0 l1 l2 (ag_lit 0) h
def g99 (call : Nat → List ag_V → ag_H → ag_R) : Nat → Option Nat → Option Nat → Option Nat → Int32 → ag_H → ag_R
  | 0 => fun _ _ _ _ _ => none
  | n + 1 => f99_2 call (g99 call n)
set_option maxRecDepth 100000 in
set_option maxHeartbeats 4000000 in
theorem i99_2 (call : Nat → List ag_V → ag_H → ag_R) (B : ag_K4) (l0 : Option Nat) (l1 : Option Nat) (l2 : Option Nat) (l3 : Int32) (h : ag_H) : ag_in 0 call B t99 2 [some (.inr l0), some (.inr l1), some (.inr l2), some (.inl l3), none] [] h = f99_2 call (fun (l0 : Option Nat) (l1 : Option Nat) (l2 : Option Nat) (l3 : Int32) (h : ag_H) => B 2 [some (.inr l0), some (.inr l1), some (.inr l2), some (.inl l3), none] [] h) l0 l1 l2 l3 h := by
  rfl
set_option maxRecDepth 100000 in
set_option maxHeartbeats 4000000 in
theorem i99 (call : Nat → List ag_V → ag_H → ag_R) (B : ag_K4) (l0 : Option Nat) (l1 : Option Nat) (l2 : Option Nat) (h : ag_H) : ag_in 0 call B t99 0 [some (.inr l0), some (.inr l1), some (.inr l2), none, none] [] h = f99 call (fun (l0 : Option Nat) (l1 : Option Nat) (l2 : Option Nat) (l3 : Int32) (h : ag_H) => B 2 [some (.inr l0), some (.inr l1), some (.inr l2), some (.inl l3), none] [] h) l0 l1 l2 h := by
  rfl
set_option maxRecDepth 100000 in
set_option maxHeartbeats 4000000 in
theorem o99 (call : Nat → List ag_V → ag_H → ag_R) : ∀ n : Nat, (fun (l0 : Option Nat) (l1 : Option Nat) (l2 : Option Nat) (l3 : Int32) (h : ag_H) => (ag_out 0 call t99 n) 2 [some (.inr l0), some (.inr l1), some (.inr l2), some (.inl l3), none] [] h) = g99 call n := by
  intro n
  induction n with
  | zero => rfl
  | succ n ih =>
    funext l0 l1 l2 l3 h
    show ag_in 0 call (ag_out 0 call t99 n) t99 2 [some (.inr l0), some (.inr l1), some (.inr l2), some (.inl l3), none] [] h = f99_2 call (g99 call n) l0 l1 l2 l3 h
    rw [i99_2, ih]
set_option maxRecDepth 100000 in
set_option maxHeartbeats 4000000 in
theorem r99 (d : Nat) (l0 : Option Nat) (l1 : Option Nat) (l2 : Option Nat) (h : ag_H) : ag_run gT (d + 1) 99 [.inr l0, .inr l1, .inr l2] h = f99 (ag_run gT d) (g99 (ag_run gT d) 3999) l0 l1 l2 h := by
  show ag_out 0 (ag_run gT d) t99 4000 0 [some (.inr l0), some (.inr l1), some (.inr l2), none, none] [] h = _
  rw [ag_out_top, i99, o99]
def f100_79 (call : Nat → List ag_V → ag_H → ag_R) (b14 : Option Nat → Option Nat → Int32 → Int32 → Int32 → Int32 → Int32 → ag_H → ag_R) (l0 : Option Nat) (l1 : Option Nat) (l2 : Int32) (l3 : Int32) (l4 : Int32) (l5 : Int32) (l6 : Int32) (h : ag_H) : ag_R :=
  b14 l0 l1 l2 l3 l4 l5 (l6 + ag_lit 1) h
def f100_14 (call : Nat → List ag_V → ag_H → ag_R) (b14 : Option Nat → Option Nat → Int32 → Int32 → Int32 → Int32 → Int32 → ag_H → ag_R) (l0 : Option Nat) (l1 : Option Nat) (l2 : Int32) (l3 : Int32) (l4 : Int32) (l5 : Int32) (l6 : Int32) (h : ag_H) : ag_R :=
  if l4 ≤ l6 then
    ag_isC l3 (some (.inl (some (.inl l3)), h))
  else
    ag_at h l1 0 fun a1 _ => ag_bI (call 3 [.inr (some a1), .inl l5] h) fun x3 h2 =>
    ag_at h2 l1 0 fun a4 _ => ag_bI (call 4 [.inr (some a4), .inl l5] h2) fun x6 h5 =>
    ag_at h5 l0 10 fun a7 _ => ag_bR (call 83 [.inr (some a7), .inl x3] h5) fun x9 h8 =>
    ag_at h8 x9 7 fun a10 _ => ag_bI (call 40 [.inr (some a10), .inl x6, .inl l2] h8) fun x12 h11 =>
    if x12 = (ag_lit 0) then
      f100_79 call b14 l0 l1 l2 l3 l4 (l5 + ag_lit 1) l6 h11
    else
      ag_at h11 l0 10 fun a13 _ => ag_bV (call 95 [.inr (some a13), .inl x3, .inl x6] h11) fun h14 =>
      ag_at h14 l1 0 fun a15 _ => ag_bV (call 2 [.inr (some a15), .inl l5] h14) fun h16 =>
      f100_79 call b14 l0 l1 l2 x12 l4 l5 l6 h16
/-- NameSpaces.openHandles(LNameSpaces$Handles;I)C -/
def f100 (call : Nat → List ag_V → ag_H → ag_R) (b14 : Option Nat → Option Nat → Int32 → Int32 → Int32 → Int32 → Int32 → ag_H → ag_R) (l0 : Option Nat) (l1 : Option Nat) (l2 : Int32) (h : ag_H) : ag_R :=
  ag_gI h l1 0 3 fun x1 =>
  f100_14 call b14 l0 l1 l2 (ag_lit 0) x1 (ag_lit 0) (ag_lit 0) h
def g100 (call : Nat → List ag_V → ag_H → ag_R) : Nat → Option Nat → Option Nat → Int32 → Int32 → Int32 → Int32 → Int32 → ag_H → ag_R
  | 0 => fun _ _ _ _ _ _ _ _ => none
  | n + 1 => f100_14 call (g100 call n)
set_option maxRecDepth 100000 in
set_option maxHeartbeats 4000000 in
theorem i100_14 (call : Nat → List ag_V → ag_H → ag_R) (B : ag_K4) (l0 : Option Nat) (l1 : Option Nat) (l2 : Int32) (l3 : Int32) (l4 : Int32) (l5 : Int32) (l6 : Int32) (h : ag_H) : ag_in 3 call B t100 14 [some (.inr l0), some (.inr l1), some (.inl l2), some (.inl l3), some (.inl l4), some (.inl l5), some (.inl l6), none, none, none] [] h = f100_14 call (fun (l0 : Option Nat) (l1 : Option Nat) (l2 : Int32) (l3 : Int32) (l4 : Int32) (l5 : Int32) (l6 : Int32) (h : ag_H) => B 14 [some (.inr l0), some (.inr l1), some (.inl l2), some (.inl l3), some (.inl l4), some (.inl l5), some (.inl l6), none, none, none] [] h) l0 l1 l2 l3 l4 l5 l6 h := by
  rfl
set_option maxRecDepth 100000 in
set_option maxHeartbeats 4000000 in
theorem i100 (call : Nat → List ag_V → ag_H → ag_R) (B : ag_K4) (l0 : Option Nat) (l1 : Option Nat) (l2 : Int32) (h : ag_H) : ag_in 3 call B t100 0 [some (.inr l0), some (.inr l1), some (.inl l2), none, none, none, none, none, none, none] [] h = f100 call (fun (l0 : Option Nat) (l1 : Option Nat) (l2 : Int32) (l3 : Int32) (l4 : Int32) (l5 : Int32) (l6 : Int32) (h : ag_H) => B 14 [some (.inr l0), some (.inr l1), some (.inl l2), some (.inl l3), some (.inl l4), some (.inl l5), some (.inl l6), none, none, none] [] h) l0 l1 l2 h := by
  rfl
set_option maxRecDepth 100000 in
set_option maxHeartbeats 4000000 in
theorem o100 (call : Nat → List ag_V → ag_H → ag_R) : ∀ n : Nat, (fun (l0 : Option Nat) (l1 : Option Nat) (l2 : Int32) (l3 : Int32) (l4 : Int32) (l5 : Int32) (l6 : Int32) (h : ag_H) => (ag_out 3 call t100 n) 14 [some (.inr l0), some (.inr l1), some (.inl l2), some (.inl l3), some (.inl l4), some (.inl l5), some (.inl l6), none, none, none] [] h) = g100 call n := by
  intro n
  induction n with
  | zero => rfl
  | succ n ih =>
    funext l0 l1 l2 l3 l4 l5 l6 h
    show ag_in 3 call (ag_out 3 call t100 n) t100 14 [some (.inr l0), some (.inr l1), some (.inl l2), some (.inl l3), some (.inl l4), some (.inl l5), some (.inl l6), none, none, none] [] h = f100_14 call (g100 call n) l0 l1 l2 l3 l4 l5 l6 h
    rw [i100_14, ih]
set_option maxRecDepth 100000 in
set_option maxHeartbeats 4000000 in
theorem r100 (d : Nat) (l0 : Option Nat) (l1 : Option Nat) (l2 : Int32) (h : ag_H) : ag_run gT (d + 1) 100 [.inr l0, .inr l1, .inl l2] h = f100 (ag_run gT d) (g100 (ag_run gT d) 3999) l0 l1 l2 h := by
  show ag_out 3 (ag_run gT d) t100 4000 0 [some (.inr l0), some (.inr l1), some (.inl l2), none, none, none, none, none, none, none] [] h = _
  rw [ag_out_top, i100, o100]
def f101_146 (call : Nat → List ag_V → ag_H → ag_R)  (l2 : Option Nat) (l6 : Int32) (l7 : Int32) (s0 : Option Nat) (s1 : Int32) (s2 : Int32) (h : ag_H) : ag_R :=
  ag_at h s0 7 fun a1 _ => ag_bI (call 40 [.inr (some a1), .inl s1, .inl s2] h) fun x3 h2 =>
  ag_gR h2 l2 3 0 fun x4 =>
  ag_pF h2 x4 0 3 (.inl (ag_lit 0)) fun h5 =>
  ag_gR h5 l2 3 0 fun x6 =>
  ag_at h5 x6 0 fun a7 _ => ag_bV (call 1 [.inr (some a7), .inl (ag_lit 0), .inl l6, .inl l7, .inl (ag_lit 0)] h5) fun h8 =>
  ag_pF h8 l2 3 2 (.inl (ag_lit 1)) fun h9 =>
  some (.inl none, h9)
def f101_129 (call : Nat → List ag_V → ag_H → ag_R)  (l0 : Option Nat) (l2 : Option Nat) (l3 : Int32) (l6 : Int32) (l7 : Int32) (h : ag_H) : ag_R :=
  ag_at h l0 10 fun a1 _ => ag_bR (call 83 [.inr (some a1), .inl l6] h) fun x3 h2 =>
  if l3 = (ag_lit 0) then
    f101_146 call l2 l6 l7 x3 l7 (ag_lit 2) h2
  else
    f101_146 call l2 l6 l7 x3 l7 (ag_lit 0) h2
/-- NameSpaces.makeFile(LNameSpaces$NameSpace;LNameSpaces$OpenFile;Z)V -/
def f101 (call : Nat → List ag_V → ag_H → ag_R)  (l0 : Option Nat) (l1 : Option Nat) (l2 : Option Nat) (l3 : Int32) (h : ag_H) : ag_R :=
  ag_at h l0 10 fun a1 _ => ag_bR (call 93 [.inr (some a1), .inr l1] h) fun x3 h2 =>
  ag_at h2 x3 0 fun a4 _ => ag_bI (call 6 [.inr (some a4)] h2) fun x6 h5 =>
  if (ag_lit 0) ≤ x6 then
    ag_at h5 x3 0 fun a7 _ => ag_bI (call 3 [.inr (some a7), .inl x6] h5) fun x9 h8 =>
    ag_at h8 l0 10 fun a10 _ => ag_bR (call 83 [.inr (some a10), .inl x9] h8) fun x12 h11 =>
    ag_at h11 x3 0 fun a13 _ => ag_bI (call 4 [.inr (some a13), .inl x6] h11) fun x15 h14 =>
    ag_at h14 x12 7 fun a16 _ => ag_bI (call 38 [.inr (some a16), .inl x15] h14) fun x18 h17 =>
    ag_gI h17 l0 10 9 fun x19 =>
    ag_gI h17 l0 10 10 fun x20 =>
    ag_at h17 l0 10 fun a21 _ => ag_bV (call 95 [.inr (some a21), .inl x19, .inl x20] h17) fun h22 =>
    ag_at h22 l0 10 fun a23 _ => ag_bR (call 83 [.inr (some a23), .inl x9] h22) fun x25 h24 =>
    ag_gR h24 l0 10 5 fun x26 =>
    ag_gR h24 l0 10 5 fun x27 =>
    ag_gI h24 x27 4 1 fun x28 =>
    ag_at h24 x26 4 fun a29 _ => ag_bI (call 27 [.inr (some a29), .inl (x28 - (ag_lit 1))] h24) fun x31 h30 =>
    ag_at h30 x25 7 fun a32 _ => ag_bI (call 41 [.inr (some a32), .inl x18, .inl x31, .inl l3] h30) fun x34 h33 =>
    if x34 = (ag_lit 0) then
      f101_129 call l0 l2 l3 x9 x18 h33
    else
      ag_at h33 l0 10 fun a35 _ => ag_bV (call 95 [.inr (some a35), .inl x9, .inl x18] h33) fun h36 =>
      ag_bV (call 90 [.inl x34] h36) fun h37 =>
      f101_129 call l0 l2 l3 x9 x18 h37
  else
    ag_gI h5 l0 10 9 fun x38 =>
    ag_gI h5 l0 10 10 fun x39 =>
    ag_at h5 l0 10 fun a40 _ => ag_bV (call 95 [.inr (some a40), .inl x38, .inl x39] h5) fun h41 =>
    some (.inr 3, ag_thr h41)
set_option maxRecDepth 100000 in
set_option maxHeartbeats 4000000 in
theorem i101 (call : Nat → List ag_V → ag_H → ag_R) (B : ag_K4) (l0 : Option Nat) (l1 : Option Nat) (l2 : Option Nat) (l3 : Int32) (h : ag_H) : ag_in 0 call B t101 0 [some (.inr l0), some (.inr l1), some (.inr l2), some (.inl l3), none, none, none, none, none] [] h = f101 call  l0 l1 l2 l3 h := by
  rfl
set_option maxRecDepth 100000 in
set_option maxHeartbeats 4000000 in
theorem r101 (d : Nat) (l0 : Option Nat) (l1 : Option Nat) (l2 : Option Nat) (l3 : Int32) (h : ag_H) : ag_run gT (d + 1) 101 [.inr l0, .inr l1, .inr l2, .inl l3] h = f101 (ag_run gT d)  l0 l1 l2 l3 h := by
  show ag_out 0 (ag_run gT d) t101 4000 0 [some (.inr l0), some (.inr l1), some (.inr l2), some (.inl l3), none, none, none, none, none] [] h = _
  rw [ag_out_top, i101]
/-- NameSpaces.closeFile(LNameSpaces$OpenFile;)V -/
def f102 (call : Nat → List ag_V → ag_H → ag_R)  (l0 : Option Nat) (l1 : Option Nat) (h : ag_H) : ag_R :=
  ag_gR h l1 3 0 fun x1 =>
  ag_at h l0 10 fun a2 _ => ag_bV (call 96 [.inr (some a2), .inr x1] h) fun h3 =>
  ag_isB (ag_lit 0) <| ag_pF h3 l1 3 1 (.inl (ag_lit 0)) fun h4 =>
  some (.inl none, h4)
set_option maxRecDepth 100000 in
set_option maxHeartbeats 4000000 in
theorem i102 (call : Nat → List ag_V → ag_H → ag_R) (B : ag_K4) (l0 : Option Nat) (l1 : Option Nat) (h : ag_H) : ag_in 0 call B t102 0 [some (.inr l0), some (.inr l1)] [] h = f102 call  l0 l1 h := by
  rfl
set_option maxRecDepth 100000 in
set_option maxHeartbeats 4000000 in
theorem r102 (d : Nat) (l0 : Option Nat) (l1 : Option Nat) (h : ag_H) : ag_run gT (d + 1) 102 [.inr l0, .inr l1] h = f102 (ag_run gT d)  l0 l1 h := by
  show ag_out 0 (ag_run gT d) t102 4000 0 [some (.inr l0), some (.inr l1)] [] h = _
  rw [ag_out_top, i102]
def f103_207 (call : Nat → List ag_V → ag_H → ag_R)  (l9 : Option Nat) (s0 : Option Nat) (s1 : Int32) (s2 : Int32) (s3 : Int32) (s4 : Int32) (h : ag_H) : ag_R :=
  ag_at h s0 0 fun a1 _ => ag_bV (call 1 [.inr (some a1), .inl s1, .inl s2, .inl s3, .inl s4] h) fun h2 =>
  ag_gI h2 l9 0 3 fun x3 =>
  some (.inl (some (.inl x3)), h2)
def f103_192 (call : Nat → List ag_V → ag_H → ag_R)  (l2 : Int32) (l3 : Int32) (l4 : Int32) (l9 : Option Nat) (s0 : Option Nat) (s1 : Int32) (h : ag_H) : ag_R :=
  ag_dv (ag_lit 4) <|
  if (l4 / (ag_lit 4)) = (ag_lit 1) then
    f103_207 call l9 s0 s1 l2 l3 (ag_lit 1) h
  else
    f103_207 call l9 s0 s1 l2 l3 (ag_lit 0) h
def f103_171 (call : Nat → List ag_V → ag_H → ag_R)  (l2 : Int32) (l3 : Int32) (l4 : Int32) (s0 : Option Nat) (h : ag_H) : ag_R :=
  ag_dv (ag_lit 4) <|
  if (l4 - l4 / (ag_lit 4) * (ag_lit 4)) = (ag_lit 1) then
    f103_192 call l2 l3 l4 s0 s0 (ag_lit 0) h
  else
    ag_gI h s0 0 3 fun x1 =>
    f103_192 call l2 l3 l4 s0 s0 x1 h
def f103_148 (call : Nat → List ag_V → ag_H → ag_R)  (l0 : Option Nat) (l1 : Option Nat) (l2 : Int32) (l3 : Int32) (l4 : Int32) (l6 : Option Nat) (l7 : Int32) (h : ag_H) : ag_R :=
  if l6 = none then
    ag_at h l0 10 fun a4 _ => ag_bR (call 105 [.inr (some a4), .inr l1, .inl l7] h) fun x6 h5 =>
    f103_171 call l2 l3 l4 x6 h5
  else
    ag_at h l0 10 fun a1 _ => ag_bR (call 106 [.inr (some a1), .inr l6, .inl l7] h) fun x3 h2 =>
    f103_171 call l2 l3 l4 x3 h2
def f103_123 (call : Nat → List ag_V → ag_H → ag_R)  (l0 : Option Nat) (l1 : Option Nat) (l2 : Int32) (l3 : Int32) (l4 : Int32) (l6 : Option Nat) (l7 : Int32) (h : ag_H) : ag_R :=
  ag_gI h l0 10 9 fun x1 =>
  ag_gI h l0 10 10 fun x2 =>
  ag_at h l0 10 fun a3 _ => ag_bV (call 95 [.inr (some a3), .inl x1, .inl x2] h) fun h4 =>
  ag_at h4 l0 10 fun a5 _ => ag_bV (call 95 [.inr (some a5), .inl l2, .inl l3] h4) fun h6 =>
  ag_gI h6 l0 10 12 fun x7 =>
  ag_bV (call 104 [.inl x7] h6) fun h8 =>
  f103_148 call l0 l1 l2 l3 l4 l6 l7 h8
def f103_109 (call : Nat → List ag_V → ag_H → ag_R)  (l0 : Option Nat) (l1 : Option Nat) (l2 : Int32) (l3 : Int32) (l4 : Int32) (l6 : Option Nat) (l7 : Int32) (s0 : Int32) (h : ag_H) : ag_R :=
  ag_gI h l0 10 12 fun x1 =>
  if x1 = (ag_lit 0) then
    f103_123 call l0 l1 l2 l3 l4 l6 l7 h
  else
    if s0 = (ag_lit 0) then
      f103_148 call l0 l1 l2 l3 l4 l6 l7 h
    else
      f103_123 call l0 l1 l2 l3 l4 l6 l7 h
def f103_108 (call : Nat → List ag_V → ag_H → ag_R)  (l0 : Option Nat) (l1 : Option Nat) (l2 : Int32) (l3 : Int32) (l4 : Int32) (l6 : Option Nat) (l7 : Int32) (h : ag_H) : ag_R :=
  f103_109 call l0 l1 l2 l3 l4 l6 l7 (ag_lit 0) h
def f103_64 (call : Nat → List ag_V → ag_H → ag_R)  (l0 : Option Nat) (l1 : Option Nat) (l2 : Int32) (l3 : Int32) (l4 : Int32) (l6 : Option Nat) (s0 : Int32) (h : ag_H) : ag_R :=
  if l6 = none then
    ag_gI h l1 2 1 fun x3 =>
    if x3 < (ag_lit 4) then
      f103_109 call l0 l1 l2 l3 l4 l6 s0 (ag_lit 0) h
    else
      f103_109 call l0 l1 l2 l3 l4 l6 s0 (ag_lit 1) h
  else
    if s0 = (ag_lit 0) then
      ag_gR h l6 5 0 fun x1 =>
      ag_gI h x1 0 3 fun x2 =>
      if x2 < (ag_lit 3) then
        f103_108 call l0 l1 l2 l3 l4 l6 s0 h
      else
        f103_109 call l0 l1 l2 l3 l4 l6 s0 (ag_lit 1) h
    else
      f103_108 call l0 l1 l2 l3 l4 l6 s0 h
def f103_34 (call : Nat → List ag_V → ag_H → ag_R)  (l0 : Option Nat) (l1 : Option Nat) (l2 : Int32) (l3 : Int32) (l4 : Int32) (h : ag_H) : ag_R :=
  ag_gI h l0 10 9 fun x1 =>
  ag_gI h l0 10 11 fun x2 =>
  ag_at h l1 2 fun a3 _ => ag_bI (call 14 [.inr (some a3), .inl x1, .inl x2] h) fun x5 h4 =>
  ag_at h4 l1 2 fun a6 _ => ag_bR (call 15 [.inr (some a6), .inl x5] h4) fun x8 h7 =>
  ag_dv (ag_lit 4) <|
  if (l4 - l4 / (ag_lit 4) * (ag_lit 4)) = (ag_lit 0) then
    f103_64 call l0 l1 l2 l3 l4 x8 (ag_lit 1) h7
  else
    f103_64 call l0 l1 l2 l3 l4 x8 (ag_lit 0) h7
/-- NameSpaces.join(LNameSpaces$NameSpace;III)I -/
def f103 (call : Nat → List ag_V → ag_H → ag_R)  (l0 : Option Nat) (l1 : Option Nat) (l2 : Int32) (l3 : Int32) (l4 : Int32) (h : ag_H) : ag_R :=
  ag_gR h l0 10 5 fun x1 =>
  ag_gR h l0 10 5 fun x2 =>
  ag_gI h x2 4 1 fun x3 =>
  ag_at h l0 10 fun a4 _ => ag_bI (call 92 [.inr (some a4), .inr l1, .inr x1, .inl x3] h) fun x6 h5 =>
  if x6 = (ag_lit 0) then
    f103_34 call l0 l1 l2 l3 l4 h5
  else
    ag_at h5 l0 10 fun a7 _ => ag_bV (call 95 [.inr (some a7), .inl l2, .inl l3] h5) fun h8 =>
    ag_bV (call 88 [.inl x6] h8) fun h9 =>
    f103_34 call l0 l1 l2 l3 l4 h9
set_option maxRecDepth 100000 in
set_option maxHeartbeats 4000000 in
theorem i103 (call : Nat → List ag_V → ag_H → ag_R) (B : ag_K4) (l0 : Option Nat) (l1 : Option Nat) (l2 : Int32) (l3 : Int32) (l4 : Int32) (h : ag_H) : ag_in 1 call B t103 0 [some (.inr l0), some (.inr l1), some (.inl l2), some (.inl l3), some (.inl l4), none, none, none, none, none] [] h = f103 call  l0 l1 l2 l3 l4 h := by
  rfl
set_option maxRecDepth 100000 in
set_option maxHeartbeats 4000000 in
theorem r103 (d : Nat) (l0 : Option Nat) (l1 : Option Nat) (l2 : Int32) (l3 : Int32) (l4 : Int32) (h : ag_H) : ag_run gT (d + 1) 103 [.inr l0, .inr l1, .inl l2, .inl l3, .inl l4] h = f103 (ag_run gT d)  l0 l1 l2 l3 l4 h := by
  show ag_out 1 (ag_run gT d) t103 4000 0 [some (.inr l0), some (.inr l1), some (.inl l2), some (.inl l3), some (.inl l4), none, none, none, none, none] [] h = _
  rw [ag_out_top, i103]
/-- NameSpaces.refuseJoining(Z)V -/
def f104 (call : Nat → List ag_V → ag_H → ag_R)  (l0 : Int32) (h : ag_H) : ag_R :=
  if l0 = (ag_lit 0) then
    some (.inr 3, ag_thr h)
  else
    some (.inr 1, ag_thr h)
set_option maxRecDepth 100000 in
set_option maxHeartbeats 4000000 in
theorem i104 (call : Nat → List ag_V → ag_H → ag_R) (B : ag_K4) (l0 : Int32) (h : ag_H) : ag_in 0 call B t104 0 [some (.inl l0)] [] h = f104 call  l0 h := by
  rfl
set_option maxRecDepth 100000 in
set_option maxHeartbeats 4000000 in
theorem r104 (d : Nat) (l0 : Int32) (h : ag_H) : ag_run gT (d + 1) 104 [.inl l0] h = f104 (ag_run gT d)  l0 h := by
  show ag_out 0 (ag_run gT d) t104 4000 0 [some (.inl l0)] [] h = _
  rw [ag_out_top, i104]
def f105_46 (call : Nat → List ag_V → ag_H → ag_R)  (l3 : Option Nat) (h : ag_H) : ag_R :=
  some (.inl (some (.inr l3)), h)
/-- NameSpaces.newMembers(LNameSpaces$NameSpace;Z)LNameSpaces$Handles; -/
def f105 (call : Nat → List ag_V → ag_H → ag_R)  (l0 : Option Nat) (l1 : Option Nat) (l2 : Int32) (h : ag_H) : ag_R :=
  ag_gI h l0 10 9 fun x1 =>
  ag_gI h l0 10 11 fun x2 =>
  ag_at h l1 2 fun a3 _ => ag_bR (call 16 [.inr (some a3), .inl x1, .inl x2] h) fun x5 h4 =>
  if l2 = (ag_lit 0) then
    ag_gI h4 l0 10 9 fun x6 =>
    ag_at h4 l0 10 fun a7 _ => ag_bI (call 97 [.inr (some a7)] h4) fun x9 h8 =>
    ag_at h8 x5 0 fun a10 _ => ag_bV (call 1 [.inr (some a10), .inl (ag_lit 0), .inl x6, .inl x9, .inl (ag_lit 1)] h8) fun h11 =>
    f105_46 call x5 h11
  else
    ag_gI h4 l0 10 9 fun x12 =>
    ag_gI h4 l0 10 10 fun x13 =>
    ag_at h4 l0 10 fun a14 _ => ag_bV (call 95 [.inr (some a14), .inl x12, .inl x13] h4) fun h15 =>
    f105_46 call x5 h15
set_option maxRecDepth 100000 in
set_option maxHeartbeats 4000000 in
theorem i105 (call : Nat → List ag_V → ag_H → ag_R) (B : ag_K4) (l0 : Option Nat) (l1 : Option Nat) (l2 : Int32) (h : ag_H) : ag_in 2 call B t105 0 [some (.inr l0), some (.inr l1), some (.inl l2), none] [] h = f105 call  l0 l1 l2 h := by
  rfl
set_option maxRecDepth 100000 in
set_option maxHeartbeats 4000000 in
theorem r105 (d : Nat) (l0 : Option Nat) (l1 : Option Nat) (l2 : Int32) (h : ag_H) : ag_run gT (d + 1) 105 [.inr l0, .inr l1, .inl l2] h = f105 (ag_run gT d)  l0 l1 l2 h := by
  show ag_out 2 (ag_run gT d) t105 4000 0 [some (.inr l0), some (.inr l1), some (.inl l2), none] [] h = _
  rw [ag_out_top, i105]
def f106_20 (call : Nat → List ag_V → ag_H → ag_R)  (l0 : Option Nat) (l1 : Option Nat) (h : ag_H) : ag_R :=
  ag_gI h l0 10 9 fun x1 =>
  ag_gI h l0 10 10 fun x2 =>
  ag_at h l0 10 fun a3 _ => ag_bV (call 95 [.inr (some a3), .inl x1, .inl x2] h) fun h4 =>
  ag_gR h4 l1 5 0 fun x5 =>
  some (.inl (some (.inr x5)), h4)
/-- NameSpaces.oldMembers(LNameSpaces$Place;Z)LNameSpaces$Handles; -/
def f106 (call : Nat → List ag_V → ag_H → ag_R)  (l0 : Option Nat) (l1 : Option Nat) (l2 : Int32) (h : ag_H) : ag_R :=
  if l2 = (ag_lit 0) then
    f106_20 call l0 l1 h
  else
    ag_gR h l1 5 0 fun x1 =>
    ag_at h l0 10 fun a2 _ => ag_bV (call 96 [.inr (some a2), .inr x1] h) fun h3 =>
    ag_gR h3 l1 5 0 fun x4 =>
    ag_pF h3 x4 0 3 (.inl (ag_lit 0)) fun h5 =>
    f106_20 call l0 l1 h5
set_option maxRecDepth 100000 in
set_option maxHeartbeats 4000000 in
theorem i106 (call : Nat → List ag_V → ag_H → ag_R) (B : ag_K4) (l0 : Option Nat) (l1 : Option Nat) (l2 : Int32) (h : ag_H) : ag_in 2 call B t106 0 [some (.inr l0), some (.inr l1), some (.inl l2)] [] h = f106 call  l0 l1 l2 h := by
  rfl
set_option maxRecDepth 100000 in
set_option maxHeartbeats 4000000 in
theorem r106 (d : Nat) (l0 : Option Nat) (l1 : Option Nat) (l2 : Int32) (h : ag_H) : ag_run gT (d + 1) 106 [.inr l0, .inr l1, .inl l2] h = f106 (ag_run gT d)  l0 l1 l2 h := by
  show ag_out 2 (ag_run gT d) t106 4000 0 [some (.inr l0), some (.inr l1), some (.inl l2)] [] h = _
  rw [ag_out_top, i106]
def f107_2 (call : Nat → List ag_V → ag_H → ag_R) (b2 : Option Nat → Int32 → ag_H → ag_R) (l0 : Option Nat) (l1 : Int32) (h : ag_H) : ag_R :=
  if (ag_lit 4) ≤ l1 then
    some (.inl (some (.inl (ag_lit (-1)))), h)
  else
    ag_gR h l0 10 2 fun x1 =>
    ag_xR h x1 105 l1 fun x2 =>
    ag_gR h x2 6 1 fun x3 =>
    if x3 = none then
      some (.inl (some (.inl l1)), h)
    else
      b2 l0 (l1 + ag_lit 1) h
/-- NameSpaces.leastAbsent()I -/
def f107 (call : Nat → List ag_V → ag_H → ag_R) (b2 : Option Nat → Int32 → ag_H → ag_R) (l0 : Option Nat) (h : ag_H) : ag_R :=
  f107_2 call b2 l0 (ag_lit 0) h
def g107 (call : Nat → List ag_V → ag_H → ag_R) : Nat → Option Nat → Int32 → ag_H → ag_R
  | 0 => fun _ _ _ => none
  | n + 1 => f107_2 call (g107 call n)
set_option maxRecDepth 100000 in
set_option maxHeartbeats 4000000 in
theorem i107_2 (call : Nat → List ag_V → ag_H → ag_R) (B : ag_K4) (l0 : Option Nat) (l1 : Int32) (h : ag_H) : ag_in 1 call B t107 2 [some (.inr l0), some (.inl l1)] [] h = f107_2 call (fun (l0 : Option Nat) (l1 : Int32) (h : ag_H) => B 2 [some (.inr l0), some (.inl l1)] [] h) l0 l1 h := by
  rfl
set_option maxRecDepth 100000 in
set_option maxHeartbeats 4000000 in
theorem i107 (call : Nat → List ag_V → ag_H → ag_R) (B : ag_K4) (l0 : Option Nat) (h : ag_H) : ag_in 1 call B t107 0 [some (.inr l0), none] [] h = f107 call (fun (l0 : Option Nat) (l1 : Int32) (h : ag_H) => B 2 [some (.inr l0), some (.inl l1)] [] h) l0 h := by
  rfl
set_option maxRecDepth 100000 in
set_option maxHeartbeats 4000000 in
theorem o107 (call : Nat → List ag_V → ag_H → ag_R) : ∀ n : Nat, (fun (l0 : Option Nat) (l1 : Int32) (h : ag_H) => (ag_out 1 call t107 n) 2 [some (.inr l0), some (.inl l1)] [] h) = g107 call n := by
  intro n
  induction n with
  | zero => rfl
  | succ n ih =>
    funext l0 l1 h
    show ag_in 1 call (ag_out 1 call t107 n) t107 2 [some (.inr l0), some (.inl l1)] [] h = f107_2 call (g107 call n) l0 l1 h
    rw [i107_2, ih]
set_option maxRecDepth 100000 in
set_option maxHeartbeats 4000000 in
theorem r107 (d : Nat) (l0 : Option Nat) (h : ag_H) : ag_run gT (d + 1) 107 [.inr l0] h = f107 (ag_run gT d) (g107 (ag_run gT d) 3999) l0 h := by
  show ag_out 1 (ag_run gT d) t107 4000 0 [some (.inr l0), none] [] h = _
  rw [ag_out_top, i107, o107]
def f108_24 (call : Nat → List ag_V → ag_H → ag_R) (b4 : Option Nat → Int32 → Int32 → ag_H → ag_R) (l0 : Option Nat) (l1 : Int32) (l2 : Int32) (h : ag_H) : ag_R :=
  b4 l0 l1 (l2 + ag_lit 1) h
def f108_4 (call : Nat → List ag_V → ag_H → ag_R) (b4 : Option Nat → Int32 → Int32 → ag_H → ag_R) (l0 : Option Nat) (l1 : Int32) (l2 : Int32) (h : ag_H) : ag_R :=
  if (ag_lit 4) ≤ l2 then
    some (.inl (some (.inl l1)), h)
  else
    ag_gR h l0 10 2 fun x1 =>
    ag_xR h x1 105 l2 fun x2 =>
    ag_gR h x2 6 1 fun x3 =>
    if x3 = none then
      f108_24 call b4 l0 l1 l2 h
    else
      f108_24 call b4 l0 (l1 + ag_lit 1) l2 h
/-- NameSpaces.processes()I -/
def f108 (call : Nat → List ag_V → ag_H → ag_R) (b4 : Option Nat → Int32 → Int32 → ag_H → ag_R) (l0 : Option Nat) (h : ag_H) : ag_R :=
  f108_4 call b4 l0 (ag_lit 0) (ag_lit 0) h
def g108 (call : Nat → List ag_V → ag_H → ag_R) : Nat → Option Nat → Int32 → Int32 → ag_H → ag_R
  | 0 => fun _ _ _ _ => none
  | n + 1 => f108_4 call (g108 call n)
set_option maxRecDepth 100000 in
set_option maxHeartbeats 4000000 in
theorem i108_4 (call : Nat → List ag_V → ag_H → ag_R) (B : ag_K4) (l0 : Option Nat) (l1 : Int32) (l2 : Int32) (h : ag_H) : ag_in 1 call B t108 4 [some (.inr l0), some (.inl l1), some (.inl l2)] [] h = f108_4 call (fun (l0 : Option Nat) (l1 : Int32) (l2 : Int32) (h : ag_H) => B 4 [some (.inr l0), some (.inl l1), some (.inl l2)] [] h) l0 l1 l2 h := by
  rfl
set_option maxRecDepth 100000 in
set_option maxHeartbeats 4000000 in
theorem i108 (call : Nat → List ag_V → ag_H → ag_R) (B : ag_K4) (l0 : Option Nat) (h : ag_H) : ag_in 1 call B t108 0 [some (.inr l0), none, none] [] h = f108 call (fun (l0 : Option Nat) (l1 : Int32) (l2 : Int32) (h : ag_H) => B 4 [some (.inr l0), some (.inl l1), some (.inl l2)] [] h) l0 h := by
  rfl
set_option maxRecDepth 100000 in
set_option maxHeartbeats 4000000 in
theorem o108 (call : Nat → List ag_V → ag_H → ag_R) : ∀ n : Nat, (fun (l0 : Option Nat) (l1 : Int32) (l2 : Int32) (h : ag_H) => (ag_out 1 call t108 n) 4 [some (.inr l0), some (.inl l1), some (.inl l2)] [] h) = g108 call n := by
  intro n
  induction n with
  | zero => rfl
  | succ n ih =>
    funext l0 l1 l2 h
    show ag_in 1 call (ag_out 1 call t108 n) t108 4 [some (.inr l0), some (.inl l1), some (.inl l2)] [] h = f108_4 call (g108 call n) l0 l1 l2 h
    rw [i108_4, ih]
set_option maxRecDepth 100000 in
set_option maxHeartbeats 4000000 in
theorem r108 (d : Nat) (l0 : Option Nat) (h : ag_H) : ag_run gT (d + 1) 108 [.inr l0] h = f108 (ag_run gT d) (g108 (ag_run gT d) 3999) l0 h := by
  show ag_out 1 (ag_run gT d) t108 4000 0 [some (.inr l0), none, none] [] h = _
  rw [ag_out_top, i108, o108]
def f109_2 (call : Nat → List ag_V → ag_H → ag_R) (b2 : Option Nat → Int32 → ag_H → ag_R) (l0 : Option Nat) (l1 : Int32) (h : ag_H) : ag_R :=
  if (ag_lit 4) ≤ l1 then
    some (.inl (some (.inr none)), h)
  else
    ag_gR h l0 10 1 fun x1 =>
    ag_xR h x1 104 l1 fun x2 =>
    ag_gI h x2 2 2 fun x3 =>
    if x3 = (ag_lit 0) then
      ag_gR h l0 10 1 fun x4 =>
      ag_xR h x4 104 l1 fun x5 =>
      some (.inl (some (.inr x5)), h)
    else
      b2 l0 (l1 + ag_lit 1) h
/-- NameSpaces.unusedSpace()LNameSpaces$NameSpace; -/
def f109 (call : Nat → List ag_V → ag_H → ag_R) (b2 : Option Nat → Int32 → ag_H → ag_R) (l0 : Option Nat) (h : ag_H) : ag_R :=
  f109_2 call b2 l0 (ag_lit 0) h
def g109 (call : Nat → List ag_V → ag_H → ag_R) : Nat → Option Nat → Int32 → ag_H → ag_R
  | 0 => fun _ _ _ => none
  | n + 1 => f109_2 call (g109 call n)
set_option maxRecDepth 100000 in
set_option maxHeartbeats 4000000 in
theorem i109_2 (call : Nat → List ag_V → ag_H → ag_R) (B : ag_K4) (l0 : Option Nat) (l1 : Int32) (h : ag_H) : ag_in 2 call B t109 2 [some (.inr l0), some (.inl l1)] [] h = f109_2 call (fun (l0 : Option Nat) (l1 : Int32) (h : ag_H) => B 2 [some (.inr l0), some (.inl l1)] [] h) l0 l1 h := by
  rfl
set_option maxRecDepth 100000 in
set_option maxHeartbeats 4000000 in
theorem i109 (call : Nat → List ag_V → ag_H → ag_R) (B : ag_K4) (l0 : Option Nat) (h : ag_H) : ag_in 2 call B t109 0 [some (.inr l0), none] [] h = f109 call (fun (l0 : Option Nat) (l1 : Int32) (h : ag_H) => B 2 [some (.inr l0), some (.inl l1)] [] h) l0 h := by
  rfl
set_option maxRecDepth 100000 in
set_option maxHeartbeats 4000000 in
theorem o109 (call : Nat → List ag_V → ag_H → ag_R) : ∀ n : Nat, (fun (l0 : Option Nat) (l1 : Int32) (h : ag_H) => (ag_out 2 call t109 n) 2 [some (.inr l0), some (.inl l1)] [] h) = g109 call n := by
  intro n
  induction n with
  | zero => rfl
  | succ n ih =>
    funext l0 l1 h
    show ag_in 2 call (ag_out 2 call t109 n) t109 2 [some (.inr l0), some (.inl l1)] [] h = f109_2 call (g109 call n) l0 l1 h
    rw [i109_2, ih]
set_option maxRecDepth 100000 in
set_option maxHeartbeats 4000000 in
theorem r109 (d : Nat) (l0 : Option Nat) (h : ag_H) : ag_run gT (d + 1) 109 [.inr l0] h = f109 (ag_run gT d) (g109 (ag_run gT d) 3999) l0 h := by
  show ag_out 2 (ag_run gT d) t109 4000 0 [some (.inr l0), none] [] h = _
  rw [ag_out_top, i109, o109]
def f110_50 (call : Nat → List ag_V → ag_H → ag_R) (b7 : Option Nat → Option Nat → Option Nat → Int32 → ag_H → ag_R) (l0 : Option Nat) (l1 : Option Nat) (l2 : Option Nat) (l3 : Int32) (h : ag_H) : ag_R :=
  b7 l0 l1 l2 (l3 + ag_lit 1) h
def f110_7 (call : Nat → List ag_V → ag_H → ag_R) (b7 : Option Nat → Option Nat → Option Nat → Int32 → ag_H → ag_R) (l0 : Option Nat) (l1 : Option Nat) (l2 : Option Nat) (l3 : Int32) (h : ag_H) : ag_R :=
  ag_gI h l1 2 1 fun x1 =>
  if x1 ≤ l3 then
    some (.inl none, h)
  else
    ag_at h l1 2 fun a2 _ => ag_bR (call 15 [.inr (some a2), .inl l3] h) fun x4 h3 =>
    if x4 = none then
      f110_50 call b7 l0 l1 l2 l3 h3
    else
      ag_gR h3 x4 5 0 fun x5 =>
      ag_gI h3 x4 5 1 fun x6 =>
      ag_gI h3 x4 5 2 fun x7 =>
      ag_at h3 l2 2 fun a8 _ => ag_bR (call 16 [.inr (some a8), .inl x6, .inl x7] h3) fun x10 h9 =>
      ag_at h9 l0 10 fun a11 _ => ag_bV (call 99 [.inr (some a11), .inr x5, .inr x10] h9) fun h12 =>
      f110_50 call b7 l0 l1 l2 l3 h12
/-- NameSpaces.copySpace(LNameSpaces$NameSpace;LNameSpaces$NameSpace;)V -/
def f110 (call : Nat → List ag_V → ag_H → ag_R) (b7 : Option Nat → Option Nat → Option Nat → Int32 → ag_H → ag_R) (l0 : Option Nat) (l1 : Option Nat) (l2 : Option Nat) (h : ag_H) : ag_R :=
  ag_pF h l2 2 1 (.inl (ag_lit 0)) fun h1 =>
  f110_7 call b7 l0 l1 l2 (ag_lit 0) h1
def g110 (call : Nat → List ag_V → ag_H → ag_R) : Nat → Option Nat → Option Nat → Option Nat → Int32 → ag_H → ag_R
  | 0 => fun _ _ _ _ _ => none
  | n + 1 => f110_7 call (g110 call n)
set_option maxRecDepth 100000 in
set_option maxHeartbeats 4000000 in
theorem i110_7 (call : Nat → List ag_V → ag_H → ag_R) (B : ag_K4) (l0 : Option Nat) (l1 : Option Nat) (l2 : Option Nat) (l3 : Int32) (h : ag_H) : ag_in 0 call B t110 7 [some (.inr l0), some (.inr l1), some (.inr l2), some (.inl l3), none] [] h = f110_7 call (fun (l0 : Option Nat) (l1 : Option Nat) (l2 : Option Nat) (l3 : Int32) (h : ag_H) => B 7 [some (.inr l0), some (.inr l1), some (.inr l2), some (.inl l3), none] [] h) l0 l1 l2 l3 h := by
  rfl
set_option maxRecDepth 100000 in
set_option maxHeartbeats 4000000 in
theorem i110 (call : Nat → List ag_V → ag_H → ag_R) (B : ag_K4) (l0 : Option Nat) (l1 : Option Nat) (l2 : Option Nat) (h : ag_H) : ag_in 0 call B t110 0 [some (.inr l0), some (.inr l1), some (.inr l2), none, none] [] h = f110 call (fun (l0 : Option Nat) (l1 : Option Nat) (l2 : Option Nat) (l3 : Int32) (h : ag_H) => B 7 [some (.inr l0), some (.inr l1), some (.inr l2), some (.inl l3), none] [] h) l0 l1 l2 h := by
  rfl
set_option maxRecDepth 100000 in
set_option maxHeartbeats 4000000 in
theorem o110 (call : Nat → List ag_V → ag_H → ag_R) : ∀ n : Nat, (fun (l0 : Option Nat) (l1 : Option Nat) (l2 : Option Nat) (l3 : Int32) (h : ag_H) => (ag_out 0 call t110 n) 7 [some (.inr l0), some (.inr l1), some (.inr l2), some (.inl l3), none] [] h) = g110 call n := by
  intro n
  induction n with
  | zero => rfl
  | succ n ih =>
    funext l0 l1 l2 l3 h
    show ag_in 0 call (ag_out 0 call t110 n) t110 7 [some (.inr l0), some (.inr l1), some (.inr l2), some (.inl l3), none] [] h = f110_7 call (g110 call n) l0 l1 l2 l3 h
    rw [i110_7, ih]
set_option maxRecDepth 100000 in
set_option maxHeartbeats 4000000 in
theorem r110 (d : Nat) (l0 : Option Nat) (l1 : Option Nat) (l2 : Option Nat) (h : ag_H) : ag_run gT (d + 1) 110 [.inr l0, .inr l1, .inr l2] h = f110 (ag_run gT d) (g110 (ag_run gT d) 3999) l0 l1 l2 h := by
  show ag_out 0 (ag_run gT d) t110 4000 0 [some (.inr l0), some (.inr l1), some (.inr l2), none, none] [] h = _
  rw [ag_out_top, i110, o110]
def f111_28 (call : Nat → List ag_V → ag_H → ag_R) (b2 : Option Nat → Option Nat → Int32 → ag_H → ag_R) (l0 : Option Nat) (l1 : Option Nat) (l2 : Int32) (h : ag_H) : ag_R :=
  b2 l0 l1 (l2 + ag_lit 1) h
def f111_2 (call : Nat → List ag_V → ag_H → ag_R) (b2 : Option Nat → Option Nat → Int32 → ag_H → ag_R) (l0 : Option Nat) (l1 : Option Nat) (l2 : Int32) (h : ag_H) : ag_R :=
  ag_gI h l1 2 1 fun x1 =>
  if x1 ≤ l2 then
    ag_pF h l1 2 1 (.inl (ag_lit 0)) fun h2 =>
    some (.inl none, h2)
  else
    ag_at h l1 2 fun a3 _ => ag_bR (call 15 [.inr (some a3), .inl l2] h) fun x5 h4 =>
    if x5 = none then
      f111_28 call b2 l0 l1 l2 h4
    else
      ag_gR h4 x5 5 0 fun x6 =>
      ag_at h4 l0 10 fun a7 _ => ag_bV (call 96 [.inr (some a7), .inr x6] h4) fun h8 =>
      f111_28 call b2 l0 l1 l2 h8
/-- NameSpaces.emptySpace(LNameSpaces$NameSpace;)V -/
def f111 (call : Nat → List ag_V → ag_H → ag_R) (b2 : Option Nat → Option Nat → Int32 → ag_H → ag_R) (l0 : Option Nat) (l1 : Option Nat) (h : ag_H) : ag_R :=
  f111_2 call b2 l0 l1 (ag_lit 0) h
def g111 (call : Nat → List ag_V → ag_H → ag_R) : Nat → Option Nat → Option Nat → Int32 → ag_H → ag_R
  | 0 => fun _ _ _ _ => none
  | n + 1 => f111_2 call (g111 call n)
set_option maxRecDepth 100000 in
set_option maxHeartbeats 4000000 in
theorem i111_2 (call : Nat → List ag_V → ag_H → ag_R) (B : ag_K4) (l0 : Option Nat) (l1 : Option Nat) (l2 : Int32) (h : ag_H) : ag_in 0 call B t111 2 [some (.inr l0), some (.inr l1), some (.inl l2), none] [] h = f111_2 call (fun (l0 : Option Nat) (l1 : Option Nat) (l2 : Int32) (h : ag_H) => B 2 [some (.inr l0), some (.inr l1), some (.inl l2), none] [] h) l0 l1 l2 h := by
  rfl
set_option maxRecDepth 100000 in
set_option maxHeartbeats 4000000 in
theorem i111 (call : Nat → List ag_V → ag_H → ag_R) (B : ag_K4) (l0 : Option Nat) (l1 : Option Nat) (h : ag_H) : ag_in 0 call B t111 0 [some (.inr l0), some (.inr l1), none, none] [] h = f111 call (fun (l0 : Option Nat) (l1 : Option Nat) (l2 : Int32) (h : ag_H) => B 2 [some (.inr l0), some (.inr l1), some (.inl l2), none] [] h) l0 l1 h := by
  rfl
set_option maxRecDepth 100000 in
set_option maxHeartbeats 4000000 in
theorem o111 (call : Nat → List ag_V → ag_H → ag_R) : ∀ n : Nat, (fun (l0 : Option Nat) (l1 : Option Nat) (l2 : Int32) (h : ag_H) => (ag_out 0 call t111 n) 2 [some (.inr l0), some (.inr l1), some (.inl l2), none] [] h) = g111 call n := by
  intro n
  induction n with
  | zero => rfl
  | succ n ih =>
    funext l0 l1 l2 h
    show ag_in 0 call (ag_out 0 call t111 n) t111 2 [some (.inr l0), some (.inr l1), some (.inl l2), none] [] h = f111_2 call (g111 call n) l0 l1 l2 h
    rw [i111_2, ih]
set_option maxRecDepth 100000 in
set_option maxHeartbeats 4000000 in
theorem r111 (d : Nat) (l0 : Option Nat) (l1 : Option Nat) (h : ag_H) : ag_run gT (d + 1) 111 [.inr l0, .inr l1] h = f111 (ag_run gT d) (g111 (ag_run gT d) 3999) l0 l1 h := by
  show ag_out 0 (ag_run gT d) t111 4000 0 [some (.inr l0), some (.inr l1), none, none] [] h = _
  rw [ag_out_top, i111, o111]

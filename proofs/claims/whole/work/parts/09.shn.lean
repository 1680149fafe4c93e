def f146_29 (call : Nat → List ag_V → ag_H → ag_R) (b4 : Option Nat → Int32 → Int32 → Int32 → ag_H → ag_R) (l0 : Option Nat) (l1 : Int32) (l3 : Int32) (s0 : Int32) (h : ag_H) : ag_R :=
  b4 l0 l1 s0 (l3 + ag_lit 1) h
def f146_4 (call : Nat → List ag_V → ag_H → ag_R) (b4 : Option Nat → Int32 → Int32 → Int32 → ag_H → ag_R) (l0 : Option Nat) (l1 : Int32) (l2 : Int32) (l3 : Int32) (h : ag_H) : ag_R :=
  if (ag_lit 5) ≤ l3 then
    some (.inl (some (.inl l2)), h)
  else
    ag_gR h l0 11 31 fun x1 =>
    ag_xI h x1 100 (((ag_lit 5) * l1) + l3) fun x2 =>
    if x2 ≤ (ag_lit 0) then
      f146_29 call b4 l0 l1 l3 l2 h
    else
      f146_29 call b4 l0 l1 l3 (l2 + (ag_lit 1)) h
/-- NameSpacesModel.opened(I)I -/
def f146 (call : Nat → List ag_V → ag_H → ag_R) (b4 : Option Nat → Int32 → Int32 → Int32 → ag_H → ag_R) (l0 : Option Nat) (l1 : Int32) (h : ag_H) : ag_R :=
  f146_4 call b4 l0 l1 (ag_lit 0) (ag_lit 0) h
def g146 (call : Nat → List ag_V → ag_H → ag_R) : Nat → Option Nat → Int32 → Int32 → Int32 → ag_H → ag_R
  | 0 => fun _ _ _ _ _ => none
  | n + 1 => f146_4 call (g146 call n)
set_option maxRecDepth 100000 in
set_option maxHeartbeats 4000000 in
theorem i146_4 (call : Nat → List ag_V → ag_H → ag_R) (B : ag_K4) (l0 : Option Nat) (l1 : Int32) (l2 : Int32) (l3 : Int32) (h : ag_H) : ag_in 1 call B t146 4 [some (.inr l0), some (.inl l1), some (.inl l2), some (.inl l3)] [] h = f146_4 call (fun (l0 : Option Nat) (l1 : Int32) (l2 : Int32) (l3 : Int32) (h : ag_H) => B 4 [some (.inr l0), some (.inl l1), some (.inl l2), some (.inl l3)] [] h) l0 l1 l2 l3 h := by
  rfl
set_option maxRecDepth 100000 in
set_option maxHeartbeats 4000000 in
theorem i146 (call : Nat → List ag_V → ag_H → ag_R) (B : ag_K4) (l0 : Option Nat) (l1 : Int32) (h : ag_H) : ag_in 1 call B t146 0 [some (.inr l0), some (.inl l1), none, none] [] h = f146 call (fun (l0 : Option Nat) (l1 : Int32) (l2 : Int32) (l3 : Int32) (h : ag_H) => B 4 [some (.inr l0), some (.inl l1), some (.inl l2), some (.inl l3)] [] h) l0 l1 h := by
  rfl
set_option maxRecDepth 100000 in
set_option maxHeartbeats 4000000 in
theorem o146 (call : Nat → List ag_V → ag_H → ag_R) : ∀ n : Nat, (fun (l0 : Option Nat) (l1 : Int32) (l2 : Int32) (l3 : Int32) (h : ag_H) => (ag_out 1 call t146 n) 4 [some (.inr l0), some (.inl l1), some (.inl l2), some (.inl l3)] [] h) = g146 call n := by
  intro n
  induction n with
  | zero => rfl
  | succ n ih =>
    funext l0 l1 l2 l3 h
    show ag_in 1 call (ag_out 1 call t146 n) t146 4 [some (.inr l0), some (.inl l1), some (.inl l2), some (.inl l3)] [] h = f146_4 call (g146 call n) l0 l1 l2 l3 h
    rw [i146_4, ih]
set_option maxRecDepth 100000 in
set_option maxHeartbeats 4000000 in
theorem r146 (d : Nat) (l0 : Option Nat) (l1 : Int32) (h : ag_H) : ag_run gT (d + 1) 146 [.inr l0, .inl l1] h = f146 (ag_run gT d) (g146 (ag_run gT d) 3999) l0 l1 h := by
  show ag_out 1 (ag_run gT d) t146 4000 0 [some (.inr l0), some (.inl l1), none, none] [] h = _
  rw [ag_out_top, i146, o146]
def f147_26 (call : Nat → List ag_V → ag_H → ag_R) (b2 : Option Nat → Int32 → Int32 → ag_H → ag_R) (l2 : Int32) (h : ag_H) : ag_R :=
  some (.inl (some (.inl l2)), h)
def f147_2 (call : Nat → List ag_V → ag_H → ag_R) (b2 : Option Nat → Int32 → Int32 → ag_H → ag_R) (l0 : Option Nat) (l1 : Int32) (l2 : Int32) (h : ag_H) : ag_R :=
  if (ag_lit 5) ≤ l2 then
    f147_26 call b2 l2 h
  else
    ag_gR h l0 11 31 fun x1 =>
    ag_xI h x1 100 (((ag_lit 5) * l1) + l2) fun x2 =>
    if x2 ≤ (ag_lit 0) then
      f147_26 call b2 l2 h
    else
      b2 l0 l1 (l2 + ag_lit 1) h
/-- NameSpacesModel.freeFile(I)I -/
def f147 (call : Nat → List ag_V → ag_H → ag_R) (b2 : Option Nat → Int32 → Int32 → ag_H → ag_R) (l0 : Option Nat) (l1 : Int32) (h : ag_H) : ag_R :=
  f147_2 call b2 l0 l1 (ag_lit 0) h
def g147 (call : Nat → List ag_V → ag_H → ag_R) : Nat → Option Nat → Int32 → Int32 → ag_H → ag_R
  | 0 => fun _ _ _ _ => none
  | n + 1 => f147_2 call (g147 call n)
set_option maxRecDepth 100000 in
set_option maxHeartbeats 4000000 in
theorem i147_2 (call : Nat → List ag_V → ag_H → ag_R) (B : ag_K4) (l0 : Option Nat) (l1 : Int32) (l2 : Int32) (h : ag_H) : ag_in 1 call B t147 2 [some (.inr l0), some (.inl l1), some (.inl l2)] [] h = f147_2 call (fun (l0 : Option Nat) (l1 : Int32) (l2 : Int32) (h : ag_H) => B 2 [some (.inr l0), some (.inl l1), some (.inl l2)] [] h) l0 l1 l2 h := by
  rfl
set_option maxRecDepth 100000 in
set_option maxHeartbeats 4000000 in
theorem i147 (call : Nat → List ag_V → ag_H → ag_R) (B : ag_K4) (l0 : Option Nat) (l1 : Int32) (h : ag_H) : ag_in 1 call B t147 0 [some (.inr l0), some (.inl l1), none] [] h = f147 call (fun (l0 : Option Nat) (l1 : Int32) (l2 : Int32) (h : ag_H) => B 2 [some (.inr l0), some (.inl l1), some (.inl l2)] [] h) l0 l1 h := by
  rfl
set_option maxRecDepth 100000 in
set_option maxHeartbeats 4000000 in
theorem o147 (call : Nat → List ag_V → ag_H → ag_R) : ∀ n : Nat, (fun (l0 : Option Nat) (l1 : Int32) (l2 : Int32) (h : ag_H) => (ag_out 1 call t147 n) 2 [some (.inr l0), some (.inl l1), some (.inl l2)] [] h) = g147 call n := by
  intro n
  induction n with
  | zero => rfl
  | succ n ih =>
    funext l0 l1 l2 h
    show ag_in 1 call (ag_out 1 call t147 n) t147 2 [some (.inr l0), some (.inl l1), some (.inl l2)] [] h = f147_2 call (g147 call n) l0 l1 l2 h
    rw [i147_2, ih]
set_option maxRecDepth 100000 in
set_option maxHeartbeats 4000000 in
theorem r147 (d : Nat) (l0 : Option Nat) (l1 : Int32) (h : ag_H) : ag_run gT (d + 1) 147 [.inr l0, .inl l1] h = f147 (ag_run gT d) (g147 (ag_run gT d) 3999) l0 l1 h := by
  show ag_out 1 (ag_run gT d) t147 4000 0 [some (.inr l0), some (.inl l1), none] [] h = _
  rw [ag_out_top, i147, o147]
/-- NameSpacesModel.addOpen(III)V -/
def f148 (call : Nat → List ag_V → ag_H → ag_R)  (l0 : Option Nat) (l1 : Int32) (l2 : Int32) (l3 : Int32) (h : ag_H) : ag_R :=
  ag_gR h l0 11 33 fun x1 =>
  ag_gR h l0 11 31 fun x2 =>
  ag_xI h x2 100 l1 fun x3 =>
  ag_xP h x1 100 (((ag_lit 3) * l1) + x3) (.inl l2) fun h4 =>
  ag_gR h4 l0 11 34 fun x5 =>
  ag_gR h4 l0 11 31 fun x6 =>
  ag_xI h4 x6 100 l1 fun x7 =>
  ag_xP h4 x5 100 (((ag_lit 3) * l1) + x7) (.inl l3) fun h8 =>
  ag_gR h8 l0 11 31 fun x9 =>
  ag_xI h8 x9 100 l1 fun x10 =>
  ag_xP h8 x9 100 l1 (.inl (x10 + (ag_lit 1))) fun h11 =>
  some (.inl none, h11)
set_option maxRecDepth 100000 in
set_option maxHeartbeats 4000000 in
theorem i148 (call : Nat → List ag_V → ag_H → ag_R) (B : ag_K4) (l0 : Option Nat) (l1 : Int32) (l2 : Int32) (l3 : Int32) (h : ag_H) : ag_in 0 call B t148 0 [some (.inr l0), some (.inl l1), some (.inl l2), some (.inl l3)] [] h = f148 call  l0 l1 l2 l3 h := by
  rfl
set_option maxRecDepth 100000 in
set_option maxHeartbeats 4000000 in
theorem r148 (d : Nat) (l0 : Option Nat) (l1 : Int32) (l2 : Int32) (l3 : Int32) (h : ag_H) : ag_run gT (d + 1) 148 [.inr l0, .inl l1, .inl l2, .inl l3] h = f148 (ag_run gT d)  l0 l1 l2 l3 h := by
  show ag_out 0 (ag_run gT d) t148 4000 0 [some (.inr l0), some (.inl l1), some (.inl l2), some (.inl l3)] [] h = _
  rw [ag_out_top, i148]
def f149_38 (call : Nat → List ag_V → ag_H → ag_R)  (l0 : Option Nat) (s0 : Option Nat) (s1 : Int32) (h : ag_H) : ag_R :=
  ag_pF h s0 11 41 (.inl s1) fun h1 =>
  ag_gI h1 l0 11 41 fun x2 =>
  some (.inl (some (.inl x2)), h1)
/-- NameSpacesModel.code(IIII)I -/
def f149 (call : Nat → List ag_V → ag_H → ag_R)  (l0 : Option Nat) (l1 : Int32) (l2 : Int32) (l3 : Int32) (l4 : Int32) (h : ag_H) : ag_R :=
  if l1 = (ag_lit 0) then
    f149_38 call l0 l0 (ag_lit 0) h
  else
    if l1 = (ag_lit 1) then
      f149_38 call l0 l0 l2 h
    else
      if l1 = (ag_lit 2) then
        f149_38 call l0 l0 l3 h
      else
        if l1 = (ag_lit 3) then
          f149_38 call l0 l0 l4 h
        else
          f149_38 call l0 l0 (ag_lit 1) h
set_option maxRecDepth 100000 in
set_option maxHeartbeats 4000000 in
theorem i149 (call : Nat → List ag_V → ag_H → ag_R) (B : ag_K4) (l0 : Option Nat) (l1 : Int32) (l2 : Int32) (l3 : Int32) (l4 : Int32) (h : ag_H) : ag_in 1 call B t149 0 [some (.inr l0), some (.inl l1), some (.inl l2), some (.inl l3), some (.inl l4)] [] h = f149 call  l0 l1 l2 l3 l4 h := by
  rfl
set_option maxRecDepth 100000 in
set_option maxHeartbeats 4000000 in
theorem r149 (d : Nat) (l0 : Option Nat) (l1 : Int32) (l2 : Int32) (l3 : Int32) (l4 : Int32) (h : ag_H) : ag_run gT (d + 1) 149 [.inr l0, .inl l1, .inl l2, .inl l3, .inl l4] h = f149 (ag_run gT d)  l0 l1 l2 l3 l4 h := by
  show ag_out 1 (ag_run gT d) t149 4000 0 [some (.inr l0), some (.inl l1), some (.inl l2), some (.inl l3), some (.inl l4)] [] h = _
  rw [ag_out_top, i149]
def f150_322 (call : Nat → List ag_V → ag_H → ag_R) (b71 : Option Nat → Int32 → Int32 → Int32 → Int32 → Int32 → Int32 → ag_H → ag_R) (b195 : Option Nat → Int32 → Int32 → Int32 → Int32 → Int32 → ag_H → ag_R) (s0 : Int32) (h : ag_H) : ag_R :=
  some (.inl (some (.inl s0)), h)
def f150_270 (call : Nat → List ag_V → ag_H → ag_R) (b71 : Option Nat → Int32 → Int32 → Int32 → Int32 → Int32 → Int32 → ag_H → ag_R) (b195 : Option Nat → Int32 → Int32 → Int32 → Int32 → Int32 → ag_H → ag_R) (l0 : Option Nat) (l2 : Int32) (l3 : Int32) (l8 : Int32) (l9 : Int32) (l10 : Int32) (h : ag_H) : ag_R :=
  b195 l0 l2 l3 l8 l9 (l10 + ag_lit 1) h
def f150_195 (call : Nat → List ag_V → ag_H → ag_R) (b71 : Option Nat → Int32 → Int32 → Int32 → Int32 → Int32 → Int32 → ag_H → ag_R) (b195 : Option Nat → Int32 → Int32 → Int32 → Int32 → Int32 → ag_H → ag_R) (l0 : Option Nat) (l2 : Int32) (l3 : Int32) (l8 : Int32) (l9 : Int32) (l10 : Int32) (h : ag_H) : ag_R :=
  if l8 ≤ l10 then
    ag_gR h l0 11 35 fun x1 =>
    ag_xP h x1 100 l2 (.inl l3) fun h2 =>
    ag_gR h2 l0 11 36 fun x3 =>
    ag_xP h2 x3 100 l2 (.inl (ag_lit 0)) fun h4 =>
    ag_gR h4 l0 11 37 fun x5 =>
    ag_xP h4 x5 100 l2 (.inl (ag_lit 0)) fun h6 =>
    ag_gR h6 l0 11 31 fun x7 =>
    ag_xI h6 x7 100 l2 fun x8 =>
    if x8 ≤ (ag_lit 0) then
      if l9 = (ag_lit8 112) then
        f150_322 call b71 b195 (ag_lit 2) h6
      else
        f150_322 call b71 b195 (ag_lit 1) h6
    else
      f150_322 call b71 b195 (ag_lit 0) h6
  else
    ag_gR h l0 11 33 fun x9 =>
    ag_xI h x9 100 (((ag_lit 3) * l2) + l10) fun x10 =>
    ag_gR h l0 11 34 fun x11 =>
    ag_xI h x11 100 (((ag_lit 3) * l2) + l10) fun x12 =>
    ag_at h l0 11 fun a13 _ => ag_bV (call 126 [.inr (some a13), .inl x10, .inl x12, .inl l3] h) fun h14 =>
    ag_gI h14 l0 11 20 fun x15 =>
    if x15 = (ag_lit 0) then
      ag_at h14 l0 11 fun a19 _ => ag_bV (call 148 [.inr (some a19), .inl l2, .inl x10, .inl x12] h14) fun h20 =>
      f150_270 call b71 b195 l0 l2 l3 l8 l9 l10 h20
    else
      ag_gI h14 l0 11 20 fun x16 =>
      ag_at h14 l0 11 fun a17 _ => ag_bV (call 132 [.inr (some a17), .inl x10, .inl x12] h14) fun h18 =>
      f150_270 call b71 b195 l0 l2 l3 l8 x16 l10 h18
def f150_181 (call : Nat → List ag_V → ag_H → ag_R) (b71 : Option Nat → Int32 → Int32 → Int32 → Int32 → Int32 → Int32 → ag_H → ag_R) (b195 : Option Nat → Int32 → Int32 → Int32 → Int32 → Int32 → ag_H → ag_R) (l0 : Option Nat) (l2 : Int32) (l3 : Int32) (l8 : Int32) (s0 : Option Nat) (s1 : Int32) (s2 : Int32) (h : ag_H) : ag_R :=
  ag_isB s2 <| ag_xP h s0 102 s1 (.inl s2) fun h1 =>
  ag_gR h1 l0 11 31 fun x2 =>
  ag_xP h1 x2 100 l2 (.inl (ag_lit 0)) fun h3 =>
  f150_195 call b71 b195 l0 l2 l3 l8 (ag_lit 0) (ag_lit 0) h3
def f150_157 (call : Nat → List ag_V → ag_H → ag_R) (b71 : Option Nat → Int32 → Int32 → Int32 → Int32 → Int32 → Int32 → ag_H → ag_R) (b195 : Option Nat → Int32 → Int32 → Int32 → Int32 → Int32 → ag_H → ag_R) (l0 : Option Nat) (l2 : Int32) (l3 : Int32) (h : ag_H) : ag_R :=
  ag_gR h l0 11 31 fun x1 =>
  ag_xI h x1 100 l2 fun x2 =>
  ag_gR h l0 11 32 fun x3 =>
  if x2 = (ag_lit 1) then
    f150_181 call b71 b195 l0 l2 l3 x2 x3 l2 (ag_lit 1) h
  else
    f150_181 call b71 b195 l0 l2 l3 x2 x3 l2 (ag_lit 0) h
def f150_144 (call : Nat → List ag_V → ag_H → ag_R) (b71 : Option Nat → Int32 → Int32 → Int32 → Int32 → Int32 → Int32 → ag_H → ag_R) (b195 : Option Nat → Int32 → Int32 → Int32 → Int32 → Int32 → ag_H → ag_R) (l0 : Option Nat) (l2 : Int32) (l3 : Int32) (l5 : Int32) (l6 : Int32) (l7 : Int32) (h : ag_H) : ag_R :=
  if l5 < (ag_lit 0) then
    f150_157 call b71 b195 l0 l2 l3 h
  else
    ag_at h l0 11 fun a1 _ => ag_bV (call 132 [.inr (some a1), .inl l7, .inl l6] h) fun h2 =>
    f150_157 call b71 b195 l0 l2 l3 h2
def f150_71 (call : Nat → List ag_V → ag_H → ag_R) (b71 : Option Nat → Int32 → Int32 → Int32 → Int32 → Int32 → Int32 → ag_H → ag_R) (b195 : Option Nat → Int32 → Int32 → Int32 → Int32 → Int32 → ag_H → ag_R) (l0 : Option Nat) (l2 : Int32) (l3 : Int32) (l5 : Int32) (l6 : Int32) (l7 : Int32) (l8 : Int32) (h : ag_H) : ag_R :=
  if l5 < (ag_lit 0) then
    f150_144 call b71 b195 l0 l2 l3 l5 l6 l7 h
  else
    ag_gR h l0 11 25 fun x1 =>
    ag_xI h x1 100 l5 fun x2 =>
    if x2 ≤ l8 then
      f150_144 call b71 b195 l0 l2 l3 l5 l6 l7 h
    else
      ag_gR h l0 11 26 fun x3 =>
      ag_xI h x3 100 (((ag_lit 3) * l5) + l8) fun x4 =>
      ag_gR h l0 11 27 fun x5 =>
      ag_xI h x5 100 (((ag_lit 3) * l5) + l8) fun x6 =>
      ag_at h l0 11 fun a7 _ => ag_bV (call 125 [.inr (some a7), .inl x4, .inl x6, .inl (ag_lit (-1))] h) fun h8 =>
      ag_gR h8 l0 11 26 fun x9 =>
      ag_xI h8 x9 100 (((ag_lit 3) * l5) + l8) fun x10 =>
      ag_gI h8 l0 11 40 fun x11 =>
      ag_at h8 l0 11 fun a12 _ => ag_bV (call 148 [.inr (some a12), .inl l2, .inl x10, .inl x11] h8) fun h13 =>
      b71 l0 l2 l3 l5 l6 l7 (l8 + ag_lit 1) h13
def f150_68 (call : Nat → List ag_V → ag_H → ag_R) (b71 : Option Nat → Int32 → Int32 → Int32 → Int32 → Int32 → Int32 → ag_H → ag_R) (b195 : Option Nat → Int32 → Int32 → Int32 → Int32 → Int32 → ag_H → ag_R) (l0 : Option Nat) (l2 : Int32) (l3 : Int32) (l5 : Int32) (l6 : Int32) (l7 : Int32) (h : ag_H) : ag_R :=
  f150_71 call b71 b195 l0 l2 l3 l5 l6 l7 (ag_lit 0) h
/-- NameSpacesModel.opening(III)I -/
def f150 (call : Nat → List ag_V → ag_H → ag_R) (b71 : Option Nat → Int32 → Int32 → Int32 → Int32 → Int32 → Int32 → ag_H → ag_R) (b195 : Option Nat → Int32 → Int32 → Int32 → Int32 → Int32 → ag_H → ag_R) (l0 : Option Nat) (l1 : Int32) (l2 : Int32) (l3 : Int32) (h : ag_H) : ag_R :=
  ag_gI h l0 11 4 fun x1 =>
  ag_at h l0 11 fun a2 _ => ag_bI (call 141 [.inr (some a2), .inl l1, .inl x1] h) fun x4 h3 =>
  if x4 = (ag_lit 0) then
    ag_gI h3 l0 11 38 fun x5 =>
    ag_gI h3 l0 11 39 fun x6 =>
    ag_at h3 l0 11 fun a7 _ => ag_bI (call 140 [.inr (some a7), .inl l1, .inl x5, .inl x6] h3) fun x9 h8 =>
    ag_gI h8 l0 11 39 fun x10 =>
    ag_gI h8 l0 11 38 fun x11 =>
    if (ag_lit 0) ≤ x9 then
      f150_68 call b71 b195 l0 l2 l3 x9 x10 x11 h8
    else
      ag_at h8 l0 11 fun a12 _ => ag_bV (call 143 [.inr (some a12)] h8) fun h13 =>
      ag_gI h13 l0 11 38 fun x14 =>
      ag_gI h13 l0 11 39 fun x15 =>
      ag_at h13 l0 11 fun a16 _ => ag_bV (call 148 [.inr (some a16), .inl l2, .inl x14, .inl x15] h13) fun h17 =>
      f150_68 call b71 b195 l0 l2 l3 x9 x10 x11 h17
  else
    some (.inl (some (.inl x4)), h3)
def g150 (call : Nat → List ag_V → ag_H → ag_R) : Nat → (Option Nat → Int32 → Int32 → Int32 → Int32 → Int32 → Int32 → ag_H → ag_R) × (Option Nat → Int32 → Int32 → Int32 → Int32 → Int32 → ag_H → ag_R)
  | 0 => (fun _ _ _ _ _ _ _ _ => none, fun _ _ _ _ _ _ _ => none)
  | n + 1 => (f150_71 call (g150 call n).1 (g150 call n).2, f150_195 call (g150 call n).1 (g150 call n).2)
set_option maxRecDepth 100000 in
set_option maxHeartbeats 4000000 in
theorem i150_71 (call : Nat → List ag_V → ag_H → ag_R) (B : ag_K4) (l0 : Option Nat) (l2 : Int32) (l3 : Int32) (l5 : Int32) (l6 : Int32) (l7 : Int32) (l8 : Int32) (h : ag_H) : ag_in 1 call B t150 71 [some (.inr l0), none, some (.inl l2), some (.inl l3), none, some (.inl l5), some (.inl l6), some (.inl l7), some (.inl l8), none, none, none, none] [] h = f150_71 call (fun (l0 : Option Nat) (l2 : Int32) (l3 : Int32) (l5 : Int32) (l6 : Int32) (l7 : Int32) (l8 : Int32) (h : ag_H) => B 71 [some (.inr l0), none, some (.inl l2), some (.inl l3), none, some (.inl l5), some (.inl l6), some (.inl l7), some (.inl l8), none, none, none, none] [] h) (fun (l0 : Option Nat) (l2 : Int32) (l3 : Int32) (l8 : Int32) (l9 : Int32) (l10 : Int32) (h : ag_H) => B 195 [some (.inr l0), none, some (.inl l2), some (.inl l3), none, none, none, none, some (.inl l8), some (.inl l9), some (.inl l10), none, none] [] h) l0 l2 l3 l5 l6 l7 l8 h := by
  rfl
set_option maxRecDepth 100000 in
set_option maxHeartbeats 4000000 in
theorem i150_195 (call : Nat → List ag_V → ag_H → ag_R) (B : ag_K4) (l0 : Option Nat) (l2 : Int32) (l3 : Int32) (l8 : Int32) (l9 : Int32) (l10 : Int32) (h : ag_H) : ag_in 1 call B t150 195 [some (.inr l0), none, some (.inl l2), some (.inl l3), none, none, none, none, some (.inl l8), some (.inl l9), some (.inl l10), none, none] [] h = f150_195 call (fun (l0 : Option Nat) (l2 : Int32) (l3 : Int32) (l5 : Int32) (l6 : Int32) (l7 : Int32) (l8 : Int32) (h : ag_H) => B 71 [some (.inr l0), none, some (.inl l2), some (.inl l3), none, some (.inl l5), some (.inl l6), some (.inl l7), some (.inl l8), none, none, none, none] [] h) (fun (l0 : Option Nat) (l2 : Int32) (l3 : Int32) (l8 : Int32) (l9 : Int32) (l10 : Int32) (h : ag_H) => B 195 [some (.inr l0), none, some (.inl l2), some (.inl l3), none, none, none, none, some (.inl l8), some (.inl l9), some (.inl l10), none, none] [] h) l0 l2 l3 l8 l9 l10 h := by
  rfl
set_option maxRecDepth 100000 in
set_option maxHeartbeats 4000000 in
theorem i150 (call : Nat → List ag_V → ag_H → ag_R) (B : ag_K4) (l0 : Option Nat) (l1 : Int32) (l2 : Int32) (l3 : Int32) (h : ag_H) : ag_in 1 call B t150 0 [some (.inr l0), some (.inl l1), some (.inl l2), some (.inl l3), none, none, none, none, none, none, none, none, none] [] h = f150 call (fun (l0 : Option Nat) (l2 : Int32) (l3 : Int32) (l5 : Int32) (l6 : Int32) (l7 : Int32) (l8 : Int32) (h : ag_H) => B 71 [some (.inr l0), none, some (.inl l2), some (.inl l3), none, some (.inl l5), some (.inl l6), some (.inl l7), some (.inl l8), none, none, none, none] [] h) (fun (l0 : Option Nat) (l2 : Int32) (l3 : Int32) (l8 : Int32) (l9 : Int32) (l10 : Int32) (h : ag_H) => B 195 [some (.inr l0), none, some (.inl l2), some (.inl l3), none, none, none, none, some (.inl l8), some (.inl l9), some (.inl l10), none, none] [] h) l0 l1 l2 l3 h := by
  rfl
set_option maxRecDepth 100000 in
set_option maxHeartbeats 4000000 in
theorem o150 (call : Nat → List ag_V → ag_H → ag_R) : ∀ n : Nat, (fun (l0 : Option Nat) (l2 : Int32) (l3 : Int32) (l5 : Int32) (l6 : Int32) (l7 : Int32) (l8 : Int32) (h : ag_H) => (ag_out 1 call t150 n) 71 [some (.inr l0), none, some (.inl l2), some (.inl l3), none, some (.inl l5), some (.inl l6), some (.inl l7), some (.inl l8), none, none, none, none] [] h) = (g150 call n).1 ∧ (fun (l0 : Option Nat) (l2 : Int32) (l3 : Int32) (l8 : Int32) (l9 : Int32) (l10 : Int32) (h : ag_H) => (ag_out 1 call t150 n) 195 [some (.inr l0), none, some (.inl l2), some (.inl l3), none, none, none, none, some (.inl l8), some (.inl l9), some (.inl l10), none, none] [] h) = (g150 call n).2 := by
  intro n
  induction n with
  | zero => exact ⟨rfl, rfl⟩
  | succ n ih =>
    obtain ⟨e0, e1⟩ := ih
    refine ⟨?_, ?_⟩
    · funext l0 l2 l3 l5 l6 l7 l8 h
      show ag_in 1 call (ag_out 1 call t150 n) t150 71 [some (.inr l0), none, some (.inl l2), some (.inl l3), none, some (.inl l5), some (.inl l6), some (.inl l7), some (.inl l8), none, none, none, none] [] h = f150_71 call (g150 call n).1 (g150 call n).2 l0 l2 l3 l5 l6 l7 l8 h
      rw [i150_71, e0, e1]
    · funext l0 l2 l3 l8 l9 l10 h
      show ag_in 1 call (ag_out 1 call t150 n) t150 195 [some (.inr l0), none, some (.inl l2), some (.inl l3), none, none, none, none, some (.inl l8), some (.inl l9), some (.inl l10), none, none] [] h = f150_195 call (g150 call n).1 (g150 call n).2 l0 l2 l3 l8 l9 l10 h
      rw [i150_195, e0, e1]
set_option maxRecDepth 100000 in
set_option maxHeartbeats 4000000 in
theorem r150 (d : Nat) (l0 : Option Nat) (l1 : Int32) (l2 : Int32) (l3 : Int32) (h : ag_H) : ag_run gT (d + 1) 150 [.inr l0, .inl l1, .inl l2, .inl l3] h = f150 (ag_run gT d) (g150 (ag_run gT d) 3999).1 (g150 (ag_run gT d) 3999).2 l0 l1 l2 l3 h := by
  show ag_out 1 (ag_run gT d) t150 4000 0 [some (.inr l0), some (.inl l1), some (.inl l2), some (.inl l3), none, none, none, none, none, none, none, none, none] [] h = _
  rw [ag_out_top, i150, (o150 (ag_run gT d) 3999).1, (o150 (ag_run gT d) 3999).2]
def f151_99 (call : Nat → List ag_V → ag_H → ag_R)  (s0 : Int32) (h : ag_H) : ag_R :=
  some (.inl (some (.inl s0)), h)
def f151_79 (call : Nat → List ag_V → ag_H → ag_R)  (l0 : Option Nat) (l4 : Int32) (s0 : Int32) (h : ag_H) : ag_R :=
  ag_at h l0 11 fun a1 _ => ag_bI (call 149 [.inr (some a1), .inl s0, .inl (ag_lit 3), .inl (ag_lit 4), .inl (ag_lit 2)] h) fun x3 h2 =>
  if x3 = (ag_lit 0) then
    f151_99 call l4 h2
  else
    f151_99 call (ag_lit 0) h2
def f151_37 (call : Nat → List ag_V → ag_H → ag_R)  (l0 : Option Nat) (l1 : Int32) (l2 : Int32) (s0 : Int32) (h : ag_H) : ag_R :=
  ag_at h l0 11 fun a1 _ => ag_bV (call 139 [.inr (some a1)] h) fun h2 =>
  ag_at h2 l0 11 fun a3 _ => ag_bI (call 147 [.inr (some a3), .inl l1] h2) fun x5 h4 =>
  if s0 = (ag_lit 0) then
    f151_79 call l0 x5 (ag_lit 4) h4
  else
    if x5 = (ag_lit 5) then
      f151_79 call l0 x5 (ag_lit 3) h4
    else
      ag_at h4 l0 11 fun a6 _ => ag_bI (call 150 [.inr (some a6), .inl l1, .inl (((ag_lit 5) * l1) + x5), .inl l2] h4) fun x8 h7 =>
      f151_79 call l0 x5 x8 h7
def f151_36 (call : Nat → List ag_V → ag_H → ag_R)  (l0 : Option Nat) (l1 : Int32) (l2 : Int32) (h : ag_H) : ag_R :=
  f151_37 call l0 l1 l2 (ag_lit 0) h
/-- NameSpacesModel.open(II)I -/
def f151 (call : Nat → List ag_V → ag_H → ag_R)  (l0 : Option Nat) (l1 : Int32) (l2 : Int32) (h : ag_H) : ag_R :=
  ag_at h l0 11 fun a1 _ => ag_bI (call 144 [.inr (some a1), .inl l1] h) fun x3 h2 =>
  if x3 = (ag_lit 0) then
    ag_pF h2 l0 11 41 (.inl (ag_lit 1)) fun h9 =>
    some (.inl (some (.inl (ag_lit 0))), h9)
  else
    ag_at h2 l0 11 fun a4 _ => ag_bI (call 138 [.inr (some a4), .inl (ag_lit 0)] h2) fun x6 h5 =>
    if x6 = (ag_lit 0) then
      f151_36 call l0 l1 l2 h5
    else
      ag_bI (call 114 [.inl l2, .inl (ag_lit 0), .inl (ag_lit 2)] h5) fun x8 h7 =>
      if x8 = (ag_lit 0) then
        f151_37 call l0 l1 l2 (ag_lit 1) h7
      else
        f151_36 call l0 l1 l2 h7
set_option maxRecDepth 100000 in
set_option maxHeartbeats 4000000 in
theorem i151 (call : Nat → List ag_V → ag_H → ag_R) (B : ag_K4) (l0 : Option Nat) (l1 : Int32) (l2 : Int32) (h : ag_H) : ag_in 1 call B t151 0 [some (.inr l0), some (.inl l1), some (.inl l2), none, none, none] [] h = f151 call  l0 l1 l2 h := by
  rfl
set_option maxRecDepth 100000 in
set_option maxHeartbeats 4000000 in
theorem r151 (d : Nat) (l0 : Option Nat) (l1 : Int32) (l2 : Int32) (h : ag_H) : ag_run gT (d + 1) 151 [.inr l0, .inl l1, .inl l2] h = f151 (ag_run gT d)  l0 l1 l2 h := by
  show ag_out 1 (ag_run gT d) t151 4000 0 [some (.inr l0), some (.inl l1), some (.inl l2), none, none, none] [] h = _
  rw [ag_out_top, i151]
def f152_303 (call : Nat → List ag_V → ag_H → ag_R) (b51 : Option Nat → Int32 → Int32 → Int32 → Int32 → Int32 → Int32 → ag_H → ag_R) (l0 : Option Nat) (l2 : Int32) (s0 : Option Nat) (s1 : Int32) (s2 : Int32) (h : ag_H) : ag_R :=
  ag_xP h s0 100 s1 (.inl s2) fun h1 =>
  ag_gR h1 l0 11 36 fun x2 =>
  ag_xP h1 x2 100 l2 (.inl (ag_lit 0)) fun h3 =>
  ag_gR h3 l0 11 37 fun x4 =>
  ag_xP h3 x4 100 l2 (.inl (ag_lit 0)) fun h5 =>
  some (.inl (some (.inl (ag_lit 0))), h5)
def f152_270 (call : Nat → List ag_V → ag_H → ag_R) (b51 : Option Nat → Int32 → Int32 → Int32 → Int32 → Int32 → Int32 → ag_H → ag_R) (l0 : Option Nat) (l2 : Int32) (l3 : Int32) (l6 : Int32) (l7 : Int32) (s0 : Option Nat) (s1 : Int32) (s2 : Int32) (s3 : Int32) (h : ag_H) : ag_R :=
  ag_at h s0 11 fun a1 _ => ag_bV (call 126 [.inr (some a1), .inl s1, .inl s2, .inl s3] h) fun h2 =>
  ag_gR h2 l0 11 32 fun x3 =>
  ag_isB (ag_lit 1) <| ag_xP h2 x3 102 l2 (.inl (ag_lit 1)) fun h4 =>
  ag_at h4 l0 11 fun a5 _ => ag_bV (call 148 [.inr (some a5), .inl l2, .inl l6, .inl l7] h4) fun h6 =>
  ag_gR h6 l0 11 35 fun x7 =>
  if l3 = (ag_lit 0) then
    f152_303 call b51 l0 l2 x7 l2 (ag_lit 2) h6
  else
    f152_303 call b51 l0 l2 x7 l2 (ag_lit 0) h6
def f152_255 (call : Nat → List ag_V → ag_H → ag_R) (b51 : Option Nat → Int32 → Int32 → Int32 → Int32 → Int32 → Int32 → ag_H → ag_R) (s0 : Int32) (h : ag_H) : ag_R :=
  some (.inl (some (.inl s0)), h)
def f152_169 (call : Nat → List ag_V → ag_H → ag_R) (b51 : Option Nat → Int32 → Int32 → Int32 → Int32 → Int32 → Int32 → ag_H → ag_R) (l0 : Option Nat) (l2 : Int32) (l3 : Int32) (l6 : Int32) (s0 : Option Nat) (s1 : Int32) (s2 : Int32) (h : ag_H) : ag_R :=
  ag_at h s0 11 fun a1 _ => ag_bV (call 125 [.inr (some a1), .inl s1, .inl s2, .inl (ag_lit (-1))] h) fun h2 =>
  ag_gI h2 l0 11 40 fun x3 =>
  ag_gI h2 l0 11 38 fun x4 =>
  ag_gI h2 l0 11 39 fun x5 =>
  ag_at h2 l0 11 fun a6 _ => ag_bV (call 132 [.inr (some a6), .inl x4, .inl x5] h2) fun h7 =>
  ag_gR h7 l0 11 5 fun x8 =>
  ag_gI h7 l0 11 4 fun x9 =>
  ag_xI h7 x8 100 (x9 - (ag_lit 1)) fun x10 =>
  ag_at h7 l0 11 fun a11 _ => ag_bV (call 128 [.inr (some a11), .inl l6, .inl x3, .inl x10, .inl l3] h7) fun h12 =>
  ag_gI h12 l0 11 20 fun x13 =>
  if x13 = (ag_lit 0) then
    if l3 = (ag_lit 0) then
      f152_270 call b51 l0 l2 l3 l6 x3 l0 l6 x3 (ag_lit 2) h12
    else
      f152_270 call b51 l0 l2 l3 l6 x3 l0 l6 x3 (ag_lit 0) h12
  else
    ag_gI h12 l0 11 20 fun x14 =>
    ag_at h12 l0 11 fun a15 _ => ag_bV (call 132 [.inr (some a15), .inl l6, .inl x3] h12) fun h16 =>
    if x14 = (ag_lit8 102) then
      f152_255 call b51 (ag_lit 3) h16
    else
      if x14 = (ag_lit8 110) then
        f152_255 call b51 (ag_lit 1) h16
      else
        f152_255 call b51 (ag_lit 2) h16
def f152_142 (call : Nat → List ag_V → ag_H → ag_R) (b51 : Option Nat → Int32 → Int32 → Int32 → Int32 → Int32 → Int32 → ag_H → ag_R) (l0 : Option Nat) (l2 : Int32) (l3 : Int32) (l5 : Int32) (l7 : Int32) (l8 : Int32) (s0 : Int32) (h : ag_H) : ag_R :=
  if (ag_lit 0) ≤ l5 then
    ag_gR h l0 11 27 fun x1 =>
    ag_xI h x1 100 (((ag_lit 3) * l5) + l8) fun x2 =>
    f152_169 call b51 l0 l2 l3 s0 l0 s0 x2 h
  else
    f152_169 call b51 l0 l2 l3 s0 l0 s0 l7 h
def f152_120 (call : Nat → List ag_V → ag_H → ag_R) (b51 : Option Nat → Int32 → Int32 → Int32 → Int32 → Int32 → Int32 → ag_H → ag_R) (l0 : Option Nat) (l2 : Int32) (l3 : Int32) (l5 : Int32) (l6 : Int32) (l7 : Int32) (l8 : Int32) (h : ag_H) : ag_R :=
  if (ag_lit 0) ≤ l5 then
    ag_gR h l0 11 26 fun x1 =>
    ag_xI h x1 100 (((ag_lit 3) * l5) + l8) fun x2 =>
    f152_142 call b51 l0 l2 l3 l5 l7 l8 x2 h
  else
    f152_142 call b51 l0 l2 l3 l5 l7 l8 l6 h
def f152_89 (call : Nat → List ag_V → ag_H → ag_R) (b51 : Option Nat → Int32 → Int32 → Int32 → Int32 → Int32 → Int32 → ag_H → ag_R) (l0 : Option Nat) (l2 : Int32) (l3 : Int32) (l5 : Int32) (l6 : Int32) (l7 : Int32) (l8 : Int32) (h : ag_H) : ag_R :=
  if l5 < (ag_lit 0) then
    f152_120 call b51 l0 l2 l3 l5 l6 l7 l8 h
  else
    ag_gR h l0 11 25 fun x1 =>
    ag_xI h x1 100 l5 fun x2 =>
    if l8 = x2 then
      ag_gI h l0 11 38 fun x3 =>
      ag_gI h l0 11 39 fun x4 =>
      ag_at h l0 11 fun a5 _ => ag_bV (call 132 [.inr (some a5), .inl x3, .inl x4] h) fun h6 =>
      some (.inl (some (.inl (ag_lit 2))), h6)
    else
      f152_120 call b51 l0 l2 l3 l5 l6 l7 l8 h
def f152_51 (call : Nat → List ag_V → ag_H → ag_R) (b51 : Option Nat → Int32 → Int32 → Int32 → Int32 → Int32 → Int32 → ag_H → ag_R) (l0 : Option Nat) (l2 : Int32) (l3 : Int32) (l5 : Int32) (l6 : Int32) (l7 : Int32) (l8 : Int32) (h : ag_H) : ag_R :=
  if l5 < (ag_lit 0) then
    f152_89 call b51 l0 l2 l3 l5 l6 l7 l8 h
  else
    ag_gR h l0 11 25 fun x1 =>
    ag_xI h x1 100 l5 fun x2 =>
    if x2 ≤ l8 then
      f152_89 call b51 l0 l2 l3 l5 l6 l7 l8 h
    else
      ag_gR h l0 11 28 fun x3 =>
      ag_xI h x3 102 (((ag_lit 3) * l5) + l8) fun x4 =>
      if x4 = (ag_lit 0) then
        b51 l0 l2 l3 l5 l6 l7 (l8 + ag_lit 1) h
      else
        f152_89 call b51 l0 l2 l3 l5 l6 l7 l8 h
/-- NameSpacesModel.creating(IIZ)I -/
def f152 (call : Nat → List ag_V → ag_H → ag_R) (b51 : Option Nat → Int32 → Int32 → Int32 → Int32 → Int32 → Int32 → ag_H → ag_R) (l0 : Option Nat) (l1 : Int32) (l2 : Int32) (l3 : Int32) (h : ag_H) : ag_R :=
  ag_gI h l0 11 4 fun x1 =>
  ag_at h l0 11 fun a2 _ => ag_bI (call 141 [.inr (some a2), .inl l1, .inl (x1 - (ag_lit 1))] h) fun x4 h3 =>
  if x4 = (ag_lit 0) then
    ag_gI h3 l0 11 38 fun x5 =>
    ag_gI h3 l0 11 39 fun x6 =>
    ag_at h3 l0 11 fun a7 _ => ag_bI (call 140 [.inr (some a7), .inl l1, .inl x5, .inl x6] h3) fun x9 h8 =>
    ag_gI h8 l0 11 38 fun x10 =>
    ag_gI h8 l0 11 39 fun x11 =>
    f152_51 call b51 l0 l2 l3 x9 x10 x11 (ag_lit 0) h8
  else
    some (.inl (some (.inl x4)), h3)
def g152 (call : Nat → List ag_V → ag_H → ag_R) : Nat → Option Nat → Int32 → Int32 → Int32 → Int32 → Int32 → Int32 → ag_H → ag_R
  | 0 => fun _ _ _ _ _ _ _ _ => none
  | n + 1 => f152_51 call (g152 call n)
set_option maxRecDepth 100000 in
set_option maxHeartbeats 4000000 in
theorem i152_51 (call : Nat → List ag_V → ag_H → ag_R) (B : ag_K4) (l0 : Option Nat) (l2 : Int32) (l3 : Int32) (l5 : Int32) (l6 : Int32) (l7 : Int32) (l8 : Int32) (h : ag_H) : ag_in 1 call B t152 51 [some (.inr l0), none, some (.inl l2), some (.inl l3), none, some (.inl l5), some (.inl l6), some (.inl l7), some (.inl l8), none] [] h = f152_51 call (fun (l0 : Option Nat) (l2 : Int32) (l3 : Int32) (l5 : Int32) (l6 : Int32) (l7 : Int32) (l8 : Int32) (h : ag_H) => B 51 [some (.inr l0), none, some (.inl l2), some (.inl l3), none, some (.inl l5), some (.inl l6), some (.inl l7), some (.inl l8), none] [] h) l0 l2 l3 l5 l6 l7 l8 h := by
  rfl
set_option maxRecDepth 100000 in
set_option maxHeartbeats 4000000 in
theorem i152 (call : Nat → List ag_V → ag_H → ag_R) (B : ag_K4) (l0 : Option Nat) (l1 : Int32) (l2 : Int32) (l3 : Int32) (h : ag_H) : ag_in 1 call B t152 0 [some (.inr l0), some (.inl l1), some (.inl l2), some (.inl l3), none, none, none, none, none, none] [] h = f152 call (fun (l0 : Option Nat) (l2 : Int32) (l3 : Int32) (l5 : Int32) (l6 : Int32) (l7 : Int32) (l8 : Int32) (h : ag_H) => B 51 [some (.inr l0), none, some (.inl l2), some (.inl l3), none, some (.inl l5), some (.inl l6), some (.inl l7), some (.inl l8), none] [] h) l0 l1 l2 l3 h := by
  rfl
set_option maxRecDepth 100000 in
set_option maxHeartbeats 4000000 in
theorem o152 (call : Nat → List ag_V → ag_H → ag_R) : ∀ n : Nat, (fun (l0 : Option Nat) (l2 : Int32) (l3 : Int32) (l5 : Int32) (l6 : Int32) (l7 : Int32) (l8 : Int32) (h : ag_H) => (ag_out 1 call t152 n) 51 [some (.inr l0), none, some (.inl l2), some (.inl l3), none, some (.inl l5), some (.inl l6), some (.inl l7), some (.inl l8), none] [] h) = g152 call n := by
  intro n
  induction n with
  | zero => rfl
  | succ n ih =>
    funext l0 l2 l3 l5 l6 l7 l8 h
    show ag_in 1 call (ag_out 1 call t152 n) t152 51 [some (.inr l0), none, some (.inl l2), some (.inl l3), none, some (.inl l5), some (.inl l6), some (.inl l7), some (.inl l8), none] [] h = f152_51 call (g152 call n) l0 l2 l3 l5 l6 l7 l8 h
    rw [i152_51, ih]
set_option maxRecDepth 100000 in
set_option maxHeartbeats 4000000 in
theorem r152 (d : Nat) (l0 : Option Nat) (l1 : Int32) (l2 : Int32) (l3 : Int32) (h : ag_H) : ag_run gT (d + 1) 152 [.inr l0, .inl l1, .inl l2, .inl l3] h = f152 (ag_run gT d) (g152 (ag_run gT d) 3999) l0 l1 l2 l3 h := by
  show ag_out 1 (ag_run gT d) t152 4000 0 [some (.inr l0), some (.inl l1), some (.inl l2), some (.inl l3), none, none, none, none, none, none] [] h = _
  rw [ag_out_top, i152, o152]
def f153_93 (call : Nat → List ag_V → ag_H → ag_R)  (s0 : Int32) (h : ag_H) : ag_R :=
  some (.inl (some (.inl s0)), h)
def f153_73 (call : Nat → List ag_V → ag_H → ag_R)  (l0 : Option Nat) (l4 : Int32) (s0 : Int32) (h : ag_H) : ag_R :=
  ag_at h l0 11 fun a1 _ => ag_bI (call 149 [.inr (some a1), .inl s0, .inl (ag_lit 3), .inl (ag_lit 4), .inl (ag_lit 2)] h) fun x3 h2 =>
  if x3 = (ag_lit 0) then
    f153_93 call l4 h2
  else
    f153_93 call (ag_lit 0) h2
/-- NameSpacesModel.create(IZ)I -/
def f153 (call : Nat → List ag_V → ag_H → ag_R)  (l0 : Option Nat) (l1 : Int32) (l2 : Int32) (h : ag_H) : ag_R :=
  ag_at h l0 11 fun a1 _ => ag_bI (call 144 [.inr (some a1), .inl l1] h) fun x3 h2 =>
  if x3 = (ag_lit 0) then
    ag_pF h2 l0 11 41 (.inl (ag_lit 1)) fun h16 =>
    some (.inl (some (.inl (ag_lit 0))), h16)
  else
    ag_at h2 l0 11 fun a4 _ => ag_bI (call 138 [.inr (some a4), .inl (ag_lit 0)] h2) fun x6 h5 =>
    ag_at h5 l0 11 fun a7 _ => ag_bV (call 139 [.inr (some a7)] h5) fun h8 =>
    ag_at h8 l0 11 fun a9 _ => ag_bI (call 147 [.inr (some a9), .inl l1] h8) fun x11 h10 =>
    if x6 = (ag_lit 0) then
      f153_73 call l0 x11 (ag_lit 4) h10
    else
      if x11 = (ag_lit 5) then
        f153_73 call l0 x11 (ag_lit 3) h10
      else
        ag_gI h10 l0 11 4 fun x12 =>
        if x12 = (ag_lit 0) then
          f153_73 call l0 x11 (ag_lit 2) h10
        else
          ag_at h10 l0 11 fun a13 _ => ag_bI (call 152 [.inr (some a13), .inl l1, .inl (((ag_lit 5) * l1) + x11), .inl l2] h10) fun x15 h14 =>
          f153_73 call l0 x11 x15 h14
set_option maxRecDepth 100000 in
set_option maxHeartbeats 4000000 in
theorem i153 (call : Nat → List ag_V → ag_H → ag_R) (B : ag_K4) (l0 : Option Nat) (l1 : Int32) (l2 : Int32) (h : ag_H) : ag_in 1 call B t153 0 [some (.inr l0), some (.inl l1), some (.inl l2), none, none, none] [] h = f153 call  l0 l1 l2 h := by
  rfl
set_option maxRecDepth 100000 in
set_option maxHeartbeats 4000000 in
theorem r153 (d : Nat) (l0 : Option Nat) (l1 : Int32) (l2 : Int32) (h : ag_H) : ag_run gT (d + 1) 153 [.inr l0, .inl l1, .inl l2] h = f153 (ag_run gT d)  l0 l1 l2 h := by
  show ag_out 1 (ag_run gT d) t153 4000 0 [some (.inr l0), some (.inl l1), some (.inl l2), none, none, none] [] h = _
  rw [ag_out_top, i153]
def f154_251 (call : Nat → List ag_V → ag_H → ag_R) (b95 : Option Nat → Int32 → ag_H → ag_R) (s0 : Int32) (h : ag_H) : ag_R :=
  some (.inl (some (.inl s0)), h)
def f154_233 (call : Nat → List ag_V → ag_H → ag_R) (b95 : Option Nat → Int32 → ag_H → ag_R) (l0 : Option Nat) (s0 : Option Nat) (s1 : Int32) (h : ag_H) : ag_R :=
  ag_pF h s0 11 41 (.inl s1) fun h1 =>
  ag_gI h1 l0 11 41 fun x2 =>
  if x2 = (ag_lit 0) then
    ag_gI h1 l0 11 21 fun x3 =>
    f154_251 call b95 x3 h1
  else
    f154_251 call b95 (ag_lit 0) h1
def f154_232 (call : Nat → List ag_V → ag_H → ag_R) (b95 : Option Nat → Int32 → ag_H → ag_R) (l0 : Option Nat) (s0 : Option Nat) (h : ag_H) : ag_R :=
  f154_233 call b95 l0 s0 (ag_lit 0) h
def f154_203 (call : Nat → List ag_V → ag_H → ag_R) (b95 : Option Nat → Int32 → ag_H → ag_R) (l0 : Option Nat) (l3 : Int32) (s0 : Option Nat) (s1 : Int32) (s2 : Int32) (h : ag_H) : ag_R :=
  ag_xP h s0 100 s1 (.inl s2) fun h1 =>
  ag_gI h1 l0 11 21 fun x2 =>
  if (ag_lit 0) ≤ x2 then
    f154_232 call b95 l0 l0 h1
  else
    ag_gI h1 l0 11 20 fun x3 =>
    if x3 = (ag_lit 0) then
      f154_232 call b95 l0 l0 h1
    else
      ag_gR h1 l0 11 32 fun x4 =>
      ag_xI h1 x4 102 l3 fun x5 =>
      if x5 = (ag_lit 0) then
        f154_232 call b95 l0 l0 h1
      else
        f154_233 call b95 l0 l0 (ag_lit 3) h1
def f154_174 (call : Nat → List ag_V → ag_H → ag_R) (b95 : Option Nat → Int32 → ag_H → ag_R) (l0 : Option Nat) (l3 : Int32) (h : ag_H) : ag_R :=
  ag_gR h l0 11 37 fun x1 =>
  ag_gI h l0 11 21 fun x2 =>
  if x2 < (ag_lit 0) then
    ag_gR h l0 11 37 fun x3 =>
    ag_xI h x3 100 l3 fun x4 =>
    f154_203 call b95 l0 l3 x1 l3 x4 h
  else
    ag_gR h l0 11 37 fun x5 =>
    ag_xI h x5 100 l3 fun x6 =>
    f154_203 call b95 l0 l3 x1 l3 (x6 + (ag_lit 1)) h
def f154_95 (call : Nat → List ag_V → ag_H → ag_R) (b95 : Option Nat → Int32 → ag_H → ag_R) (l0 : Option Nat) (l3 : Int32) (h : ag_H) : ag_R :=
  ag_gI h l0 11 21 fun x1 =>
  if (ag_lit 0) ≤ x1 then
    f154_174 call b95 l0 l3 h
  else
    ag_gR h l0 11 36 fun x2 =>
    ag_xI h x2 100 l3 fun x3 =>
    ag_gR h l0 11 31 fun x4 =>
    ag_xI h x4 100 l3 fun x5 =>
    if x5 ≤ (x3 + (ag_lit 1)) then
      f154_174 call b95 l0 l3 h
    else
      ag_gR h l0 11 36 fun x6 =>
      ag_xI h x6 100 l3 fun x7 =>
      ag_xP h x6 100 l3 (.inl (x7 + (ag_lit 1))) fun h8 =>
      ag_gR h8 l0 11 37 fun x9 =>
      ag_xP h8 x9 100 l3 (.inl (ag_lit 0)) fun h10 =>
      ag_gR h10 l0 11 33 fun x11 =>
      ag_gR h10 l0 11 36 fun x12 =>
      ag_xI h10 x12 100 l3 fun x13 =>
      ag_xI h10 x11 100 (((ag_lit 3) * l3) + x13) fun x14 =>
      ag_gR h10 l0 11 34 fun x15 =>
      ag_gR h10 l0 11 36 fun x16 =>
      ag_xI h10 x16 100 l3 fun x17 =>
      ag_xI h10 x15 100 (((ag_lit 3) * l3) + x17) fun x18 =>
      ag_at h10 l0 11 fun a19 _ => ag_bV (call 130 [.inr (some a19), .inl x14, .inl x18, .inl (ag_lit 0)] h10) fun h20 =>
      b95 l0 l3 h20
def f154_43 (call : Nat → List ag_V → ag_H → ag_R) (b95 : Option Nat → Int32 → ag_H → ag_R) (l0 : Option Nat) (l3 : Int32) (s0 : Option Nat) (s1 : Int32) (h : ag_H) : ag_R :=
  ag_pF h s0 11 41 (.inl s1) fun h1 =>
  ag_gI h1 l0 11 41 fun x2 =>
  if x2 = (ag_lit 0) then
    ag_gR h1 l0 11 33 fun x3 =>
    ag_gR h1 l0 11 36 fun x4 =>
    ag_xI h1 x4 100 l3 fun x5 =>
    ag_xI h1 x3 100 (((ag_lit 3) * l3) + x5) fun x6 =>
    ag_gR h1 l0 11 34 fun x7 =>
    ag_gR h1 l0 11 36 fun x8 =>
    ag_xI h1 x8 100 l3 fun x9 =>
    ag_xI h1 x7 100 (((ag_lit 3) * l3) + x9) fun x10 =>
    ag_gR h1 l0 11 37 fun x11 =>
    ag_xI h1 x11 100 l3 fun x12 =>
    ag_at h1 l0 11 fun a13 _ => ag_bV (call 130 [.inr (some a13), .inl x6, .inl x10, .inl x12] h1) fun h14 =>
    f154_95 call b95 l0 l3 h14
  else
    some (.inl (some (.inl (ag_lit 0))), h1)
def f154_18 (call : Nat → List ag_V → ag_H → ag_R) (b95 : Option Nat → Int32 → ag_H → ag_R) (l0 : Option Nat) (s0 : Int32) (h : ag_H) : ag_R :=
  if (ag_lit 0) ≤ s0 then
    ag_gR h l0 11 35 fun x1 =>
    ag_xI h x1 100 s0 fun x2 =>
    if x2 = (ag_lit 1) then
      f154_43 call b95 l0 s0 l0 (ag_lit 2) h
    else
      f154_43 call b95 l0 s0 l0 (ag_lit 0) h
  else
    f154_43 call b95 l0 s0 l0 (ag_lit 1) h
/-- NameSpacesModel.read(II)I -/
def f154 (call : Nat → List ag_V → ag_H → ag_R) (b95 : Option Nat → Int32 → ag_H → ag_R) (l0 : Option Nat) (l1 : Int32) (l2 : Int32) (h : ag_H) : ag_R :=
  ag_at h l0 11 fun a1 _ => ag_bI (call 145 [.inr (some a1), .inl l1, .inl l2] h) fun x3 h2 =>
  if x3 = (ag_lit 0) then
    f154_18 call b95 l0 (ag_lit (-1)) h2
  else
    f154_18 call b95 l0 (((ag_lit 5) * l1) + l2) h2
def g154 (call : Nat → List ag_V → ag_H → ag_R) : Nat → Option Nat → Int32 → ag_H → ag_R
  | 0 => fun _ _ _ => none
  | n + 1 => f154_95 call (g154 call n)
set_option maxRecDepth 100000 in
set_option maxHeartbeats 4000000 in
theorem i154_95 (call : Nat → List ag_V → ag_H → ag_R) (B : ag_K4) (l0 : Option Nat) (l3 : Int32) (h : ag_H) : ag_in 1 call B t154 95 [some (.inr l0), none, none, some (.inl l3)] [] h = f154_95 call (fun (l0 : Option Nat) (l3 : Int32) (h : ag_H) => B 95 [some (.inr l0), none, none, some (.inl l3)] [] h) l0 l3 h := by
  rfl
set_option maxRecDepth 100000 in
set_option maxHeartbeats 4000000 in
theorem i154 (call : Nat → List ag_V → ag_H → ag_R) (B : ag_K4) (l0 : Option Nat) (l1 : Int32) (l2 : Int32) (h : ag_H) : ag_in 1 call B t154 0 [some (.inr l0), some (.inl l1), some (.inl l2), none] [] h = f154 call (fun (l0 : Option Nat) (l3 : Int32) (h : ag_H) => B 95 [some (.inr l0), none, none, some (.inl l3)] [] h) l0 l1 l2 h := by
  rfl
set_option maxRecDepth 100000 in
set_option maxHeartbeats 4000000 in
theorem o154 (call : Nat → List ag_V → ag_H → ag_R) : ∀ n : Nat, (fun (l0 : Option Nat) (l3 : Int32) (h : ag_H) => (ag_out 1 call t154 n) 95 [some (.inr l0), none, none, some (.inl l3)] [] h) = g154 call n := by
  intro n
  induction n with
  | zero => rfl
  | succ n ih =>
    funext l0 l3 h
    show ag_in 1 call (ag_out 1 call t154 n) t154 95 [some (.inr l0), none, none, some (.inl l3)] [] h = f154_95 call (g154 call n) l0 l3 h
    rw [i154_95, ih]
set_option maxRecDepth 100000 in
set_option maxHeartbeats 4000000 in
theorem r154 (d : Nat) (l0 : Option Nat) (l1 : Int32) (l2 : Int32) (h : ag_H) : ag_run gT (d + 1) 154 [.inr l0, .inl l1, .inl l2] h = f154 (ag_run gT d) (g154 (ag_run gT d) 3999) l0 l1 l2 h := by
  show ag_out 1 (ag_run gT d) t154 4000 0 [some (.inr l0), some (.inl l1), some (.inl l2), none] [] h = _
  rw [ag_out_top, i154, o154]
def f155_191 (call : Nat → List ag_V → ag_H → ag_R)  (s0 : Int32) (h : ag_H) : ag_R :=
  some (.inl (some (.inl s0)), h)
def f155_175 (call : Nat → List ag_V → ag_H → ag_R)  (l0 : Option Nat) (s0 : Option Nat) (s1 : Int32) (s2 : Int32) (h : ag_H) : ag_R :=
  ag_xP h s0 100 s1 (.inl s2) fun h1 =>
  ag_gI h1 l0 11 41 fun x2 =>
  if x2 = (ag_lit 0) then
    ag_gI h1 l0 11 21 fun x3 =>
    f155_191 call x3 h1
  else
    f155_191 call (ag_lit 0) h1
def f155_140 (call : Nat → List ag_V → ag_H → ag_R)  (l0 : Option Nat) (l4 : Int32) (s0 : Option Nat) (s1 : Int32) (h : ag_H) : ag_R :=
  ag_pF h s0 11 41 (.inl s1) fun h1 =>
  ag_gR h1 l0 11 37 fun x2 =>
  ag_gI h1 l0 11 41 fun x3 =>
  if x3 = (ag_lit 0) then
    ag_gR h1 l0 11 37 fun x6 =>
    ag_xI h1 x6 100 l4 fun x7 =>
    f155_175 call l0 x2 l4 (x7 + (ag_lit 1)) h1
  else
    ag_gR h1 l0 11 37 fun x4 =>
    ag_xI h1 x4 100 l4 fun x5 =>
    f155_175 call l0 x2 l4 x5 h1
def f155_56 (call : Nat → List ag_V → ag_H → ag_R)  (l0 : Option Nat) (l3 : Int32) (l4 : Int32) (s0 : Option Nat) (s1 : Int32) (h : ag_H) : ag_R :=
  ag_pF h s0 11 41 (.inl s1) fun h1 =>
  ag_gI h1 l0 11 41 fun x2 =>
  if x2 = (ag_lit 0) then
    ag_gR h1 l0 11 33 fun x3 =>
    ag_gR h1 l0 11 36 fun x4 =>
    ag_xI h1 x4 100 l4 fun x5 =>
    ag_xI h1 x3 100 (((ag_lit 3) * l4) + x5) fun x6 =>
    ag_gR h1 l0 11 34 fun x7 =>
    ag_gR h1 l0 11 36 fun x8 =>
    ag_xI h1 x8 100 l4 fun x9 =>
    ag_xI h1 x7 100 (((ag_lit 3) * l4) + x9) fun x10 =>
    ag_gR h1 l0 11 37 fun x11 =>
    ag_xI h1 x11 100 l4 fun x12 =>
    ag_at h1 l0 11 fun a13 _ => ag_bV (call 131 [.inr (some a13), .inl x6, .inl x10, .inl x12, .inl l3] h1) fun h14 =>
    ag_gI h14 l0 11 20 fun x15 =>
    if x15 = (ag_lit 0) then
      f155_140 call l0 l4 l0 (ag_lit 0) h14
    else
      ag_gI h14 l0 11 20 fun x16 =>
      if x16 = (ag_lit8 102) then
        f155_140 call l0 l4 l0 (ag_lit 2) h14
      else
        f155_140 call l0 l4 l0 (ag_lit 3) h14
  else
    some (.inl (some (.inl (ag_lit 0))), h1)
def f155_29 (call : Nat → List ag_V → ag_H → ag_R)  (l0 : Option Nat) (l3 : Int32) (s0 : Int32) (h : ag_H) : ag_R :=
  if (ag_lit 0) ≤ s0 then
    ag_gR h l0 11 35 fun x1 =>
    ag_xI h x1 100 s0 fun x2 =>
    if x2 = (ag_lit 0) then
      f155_56 call l0 l3 s0 l0 (ag_lit 4) h
    else
      f155_56 call l0 l3 s0 l0 (ag_lit 0) h
  else
    f155_56 call l0 l3 s0 l0 (ag_lit 1) h
def f155_28 (call : Nat → List ag_V → ag_H → ag_R)  (l0 : Option Nat) (l3 : Int32) (h : ag_H) : ag_R :=
  f155_29 call l0 l3 (ag_lit (-1)) h
/-- NameSpacesModel.write(III)I -/
def f155 (call : Nat → List ag_V → ag_H → ag_R)  (l0 : Option Nat) (l1 : Int32) (l2 : Int32) (l3 : Int32) (h : ag_H) : ag_R :=
  ag_at h l0 11 fun a1 _ => ag_bI (call 145 [.inr (some a1), .inl l1, .inl l2] h) fun x3 h2 =>
  if x3 = (ag_lit 0) then
    f155_28 call l0 l3 h2
  else
    ag_bI (call 114 [.inl l3, .inl (ag_lit 0), .inl (ag_lit16 255)] h2) fun x5 h4 =>
    if x5 = (ag_lit 0) then
      f155_29 call l0 l3 (((ag_lit 5) * l1) + l2) h4
    else
      f155_28 call l0 l3 h4
set_option maxRecDepth 100000 in
set_option maxHeartbeats 4000000 in
theorem i155 (call : Nat → List ag_V → ag_H → ag_R) (B : ag_K4) (l0 : Option Nat) (l1 : Int32) (l2 : Int32) (l3 : Int32) (h : ag_H) : ag_in 1 call B t155 0 [some (.inr l0), some (.inl l1), some (.inl l2), some (.inl l3), none] [] h = f155 call  l0 l1 l2 l3 h := by
  rfl
set_option maxRecDepth 100000 in
set_option maxHeartbeats 4000000 in
theorem r155 (d : Nat) (l0 : Option Nat) (l1 : Int32) (l2 : Int32) (l3 : Int32) (h : ag_H) : ag_run gT (d + 1) 155 [.inr l0, .inl l1, .inl l2, .inl l3] h = f155 (ag_run gT d)  l0 l1 l2 l3 h := by
  show ag_out 1 (ag_run gT d) t155 4000 0 [some (.inr l0), some (.inl l1), some (.inl l2), some (.inl l3), none] [] h = _
  rw [ag_out_top, i155]
def f156_2 (call : Nat → List ag_V → ag_H → ag_R) (b2 : Option Nat → Int32 → Int32 → ag_H → ag_R) (l0 : Option Nat) (l1 : Int32) (l2 : Int32) (h : ag_H) : ag_R :=
  ag_gR h l0 11 31 fun x1 =>
  ag_xI h x1 100 l1 fun x2 =>
  if x2 ≤ l2 then
    ag_gR h l0 11 31 fun x3 =>
    ag_xP h x3 100 l1 (.inl (ag_lit 0)) fun h4 =>
    some (.inl none, h4)
  else
    ag_gR h l0 11 33 fun x5 =>
    ag_xI h x5 100 (((ag_lit 3) * l1) + l2) fun x6 =>
    ag_gR h l0 11 34 fun x7 =>
    ag_xI h x7 100 (((ag_lit 3) * l1) + l2) fun x8 =>
    ag_at h l0 11 fun a9 _ => ag_bV (call 132 [.inr (some a9), .inl x6, .inl x8] h) fun h10 =>
    b2 l0 l1 (l2 + ag_lit 1) h10
/-- NameSpacesModel.closing(I)V -/
def f156 (call : Nat → List ag_V → ag_H → ag_R) (b2 : Option Nat → Int32 → Int32 → ag_H → ag_R) (l0 : Option Nat) (l1 : Int32) (h : ag_H) : ag_R :=
  f156_2 call b2 l0 l1 (ag_lit 0) h
def g156 (call : Nat → List ag_V → ag_H → ag_R) : Nat → Option Nat → Int32 → Int32 → ag_H → ag_R
  | 0 => fun _ _ _ _ => none
  | n + 1 => f156_2 call (g156 call n)
set_option maxRecDepth 100000 in
set_option maxHeartbeats 4000000 in
theorem i156_2 (call : Nat → List ag_V → ag_H → ag_R) (B : ag_K4) (l0 : Option Nat) (l1 : Int32) (l2 : Int32) (h : ag_H) : ag_in 0 call B t156 2 [some (.inr l0), some (.inl l1), some (.inl l2)] [] h = f156_2 call (fun (l0 : Option Nat) (l1 : Int32) (l2 : Int32) (h : ag_H) => B 2 [some (.inr l0), some (.inl l1), some (.inl l2)] [] h) l0 l1 l2 h := by
  rfl
set_option maxRecDepth 100000 in
set_option maxHeartbeats 4000000 in
theorem i156 (call : Nat → List ag_V → ag_H → ag_R) (B : ag_K4) (l0 : Option Nat) (l1 : Int32) (h : ag_H) : ag_in 0 call B t156 0 [some (.inr l0), some (.inl l1), none] [] h = f156 call (fun (l0 : Option Nat) (l1 : Int32) (l2 : Int32) (h : ag_H) => B 2 [some (.inr l0), some (.inl l1), some (.inl l2)] [] h) l0 l1 h := by
  rfl
set_option maxRecDepth 100000 in
set_option maxHeartbeats 4000000 in
theorem o156 (call : Nat → List ag_V → ag_H → ag_R) : ∀ n : Nat, (fun (l0 : Option Nat) (l1 : Int32) (l2 : Int32) (h : ag_H) => (ag_out 0 call t156 n) 2 [some (.inr l0), some (.inl l1), some (.inl l2)] [] h) = g156 call n := by
  intro n
  induction n with
  | zero => rfl
  | succ n ih =>
    funext l0 l1 l2 h
    show ag_in 0 call (ag_out 0 call t156 n) t156 2 [some (.inr l0), some (.inl l1), some (.inl l2)] [] h = f156_2 call (g156 call n) l0 l1 l2 h
    rw [i156_2, ih]
set_option maxRecDepth 100000 in
set_option maxHeartbeats 4000000 in
theorem r156 (d : Nat) (l0 : Option Nat) (l1 : Int32) (h : ag_H) : ag_run gT (d + 1) 156 [.inr l0, .inl l1] h = f156 (ag_run gT d) (g156 (ag_run gT d) 3999) l0 l1 h := by
  show ag_out 0 (ag_run gT d) t156 4000 0 [some (.inr l0), some (.inl l1), none] [] h = _
  rw [ag_out_top, i156, o156]
def f157_15 (call : Nat → List ag_V → ag_H → ag_R)  (l0 : Option Nat) (l1 : Int32) (l2 : Int32) (s0 : Option Nat) (s1 : Int32) (h : ag_H) : ag_R :=
  ag_pF h s0 11 41 (.inl s1) fun h1 =>
  ag_gI h1 l0 11 41 fun x2 =>
  if x2 = (ag_lit 0) then
    ag_at h1 l0 11 fun a3 _ => ag_bV (call 156 [.inr (some a3), .inl (((ag_lit 5) * l1) + l2)] h1) fun h4 =>
    ag_at h4 l0 11 fun a5 _ => ag_bI (call 146 [.inr (some a5), .inl l1] h4) fun x7 h6 =>
    some (.inl (some (.inl x7)), h6)
  else
    some (.inl (some (.inl (ag_lit 0))), h1)
/-- NameSpacesModel.close(II)I -/
def f157 (call : Nat → List ag_V → ag_H → ag_R)  (l0 : Option Nat) (l1 : Int32) (l2 : Int32) (h : ag_H) : ag_R :=
  ag_at h l0 11 fun a1 _ => ag_bI (call 145 [.inr (some a1), .inl l1, .inl l2] h) fun x3 h2 =>
  if x3 = (ag_lit 0) then
    f157_15 call l0 l1 l2 l0 (ag_lit 1) h2
  else
    f157_15 call l0 l1 l2 l0 (ag_lit 0) h2
set_option maxRecDepth 100000 in
set_option maxHeartbeats 4000000 in
theorem i157 (call : Nat → List ag_V → ag_H → ag_R) (B : ag_K4) (l0 : Option Nat) (l1 : Int32) (l2 : Int32) (h : ag_H) : ag_in 1 call B t157 0 [some (.inr l0), some (.inl l1), some (.inl l2)] [] h = f157 call  l0 l1 l2 h := by
  rfl
set_option maxRecDepth 100000 in
set_option maxHeartbeats 4000000 in
theorem r157 (d : Nat) (l0 : Option Nat) (l1 : Int32) (l2 : Int32) (h : ag_H) : ag_run gT (d + 1) 157 [.inr l0, .inl l1, .inl l2] h = f157 (ag_run gT d)  l0 l1 l2 h := by
  show ag_out 1 (ag_run gT d) t157 4000 0 [some (.inr l0), some (.inl l1), some (.inl l2)] [] h = _
  rw [ag_out_top, i157]
def f158_138 (call : Nat → List ag_V → ag_H → ag_R)  (s0 : Int32) (h : ag_H) : ag_R :=
  some (.inl (some (.inl s0)), h)
def f158_121 (call : Nat → List ag_V → ag_H → ag_R)  (l0 : Option Nat) (l3 : Int32) (l4 : Int32) (h : ag_H) : ag_R :=
  ag_at h l0 11 fun a1 _ => ag_bI (call 149 [.inr (some a1), .inl l3, .inl (ag_lit 2), .inl (ag_lit 3), .inl (ag_lit 0)] h) fun x3 h2 =>
  if x3 = (ag_lit 0) then
    f158_138 call l4 h2
  else
    f158_138 call (ag_lit 0) h2
def f158_120 (call : Nat → List ag_V → ag_H → ag_R)  (l0 : Option Nat) (l4 : Int32) (s0 : Int32) (h : ag_H) : ag_R :=
  f158_121 call l0 s0 l4 h
def f158_53 (call : Nat → List ag_V → ag_H → ag_R)  (l0 : Option Nat) (s0 : Int32) (h : ag_H) : ag_R :=
  if s0 = (ag_lit 0) then
    ag_gR h l0 11 14 fun x1 =>
    ag_gI h l0 11 38 fun x2 =>
    ag_gI h l0 11 39 fun x3 =>
    ag_xI h x1 100 (((ag_lit16 200) * x2) + x3) fun x4 =>
    ag_gI h l0 11 38 fun x5 =>
    ag_gI h l0 11 39 fun x6 =>
    ag_at h l0 11 fun a7 _ => ag_bV (call 133 [.inr (some a7), .inl x5, .inl x6] h) fun h8 =>
    ag_gI h8 l0 11 20 fun x9 =>
    if x9 = (ag_lit 0) then
      f158_120 call l0 (x4 - (ag_lit 1)) (ag_lit 0) h8
    else
      ag_gI h8 l0 11 20 fun x10 =>
      if x10 = (ag_lit8 112) then
        f158_120 call l0 (x4 - (ag_lit 1)) (ag_lit 2) h8
      else
        f158_120 call l0 (x4 - (ag_lit 1)) (ag_lit 1) h8
  else
    f158_121 call l0 s0 (ag_lit 0) h
/-- NameSpacesModel.remove(I)I -/
def f158 (call : Nat → List ag_V → ag_H → ag_R)  (l0 : Option Nat) (l1 : Int32) (h : ag_H) : ag_R :=
  ag_at h l0 11 fun a1 _ => ag_bI (call 144 [.inr (some a1), .inl l1] h) fun x3 h2 =>
  if x3 = (ag_lit 0) then
    ag_pF h2 l0 11 41 (.inl (ag_lit 1)) fun h14 =>
    some (.inl (some (.inl (ag_lit 0))), h14)
  else
    ag_at h2 l0 11 fun a4 _ => ag_bI (call 138 [.inr (some a4), .inl (ag_lit 0)] h2) fun x6 h5 =>
    ag_at h5 l0 11 fun a7 _ => ag_bV (call 139 [.inr (some a7)] h5) fun h8 =>
    if x6 = (ag_lit 0) then
      f158_53 call l0 (ag_lit 4) h8
    else
      ag_gI h8 l0 11 4 fun x9 =>
      if x9 = (ag_lit 0) then
        f158_53 call l0 (ag_lit 2) h8
      else
        ag_gI h8 l0 11 4 fun x10 =>
        ag_at h8 l0 11 fun a11 _ => ag_bI (call 141 [.inr (some a11), .inl l1, .inl x10] h8) fun x13 h12 =>
        f158_53 call l0 x13 h12
set_option maxRecDepth 100000 in
set_option maxHeartbeats 4000000 in
theorem i158 (call : Nat → List ag_V → ag_H → ag_R) (B : ag_K4) (l0 : Option Nat) (l1 : Int32) (h : ag_H) : ag_in 1 call B t158 0 [some (.inr l0), some (.inl l1), none, none, none] [] h = f158 call  l0 l1 h := by
  rfl
set_option maxRecDepth 100000 in
set_option maxHeartbeats 4000000 in
theorem r158 (d : Nat) (l0 : Option Nat) (l1 : Int32) (h : ag_H) : ag_run gT (d + 1) 158 [.inr l0, .inl l1] h = f158 (ag_run gT d)  l0 l1 h := by
  show ag_out 1 (ag_run gT d) t158 4000 0 [some (.inr l0), some (.inl l1), none, none, none] [] h = _
  rw [ag_out_top, i158]
def f159_149 (call : Nat → List ag_V → ag_H → ag_R)  (s0 : Int32) (h : ag_H) : ag_R :=
  some (.inl (some (.inl s0)), h)
def f159_132 (call : Nat → List ag_V → ag_H → ag_R)  (l0 : Option Nat) (l3 : Int32) (l4 : Int32) (h : ag_H) : ag_R :=
  ag_at h l0 11 fun a1 _ => ag_bI (call 149 [.inr (some a1), .inl l3, .inl (ag_lit 2), .inl (ag_lit 3), .inl (ag_lit 0)] h) fun x3 h2 =>
  if x3 = (ag_lit 0) then
    f159_149 call l4 h2
  else
    f159_149 call (ag_lit 0) h2
def f159_119 (call : Nat → List ag_V → ag_H → ag_R)  (l0 : Option Nat) (l4 : Int32) (s0 : Int32) (h : ag_H) : ag_R :=
  ag_gI h l0 11 38 fun x1 =>
  ag_gI h l0 11 39 fun x2 =>
  ag_at h l0 11 fun a3 _ => ag_bV (call 132 [.inr (some a3), .inl x1, .inl x2] h) fun h4 =>
  f159_132 call l0 s0 l4 h4
def f159_104 (call : Nat → List ag_V → ag_H → ag_R)  (l0 : Option Nat) (s0 : Int32) (s1 : Int32) (h : ag_H) : ag_R :=
  ag_gI h l0 11 20 fun x1 =>
  if x1 = (ag_lit 0) then
    f159_119 call l0 (s0 + s1) (ag_lit 0) h
  else
    f159_119 call l0 (s0 + s1) (ag_lit 1) h
def f159_42 (call : Nat → List ag_V → ag_H → ag_R)  (l0 : Option Nat) (s0 : Int32) (h : ag_H) : ag_R :=
  if s0 = (ag_lit 0) then
    ag_gI h l0 11 38 fun x1 =>
    ag_gI h l0 11 39 fun x2 =>
    ag_at h l0 11 fun a3 _ => ag_bV (call 134 [.inr (some a3), .inl x1, .inl x2] h) fun h4 =>
    ag_gI h4 l0 11 38 fun x5 =>
    ag_gR h4 l0 11 14 fun x6 =>
    ag_gI h4 l0 11 38 fun x7 =>
    ag_gI h4 l0 11 39 fun x8 =>
    ag_xI h4 x6 100 (((ag_lit16 200) * x7) + x8) fun x9 =>
    ag_at h4 l0 11 fun a10 _ => ag_bI (call 142 [.inr (some a10)] h4) fun x12 h11 =>
    if x12 = (ag_lit 0) then
      f159_104 call l0 (((ag_lit8 100) * x5) + ((ag_lit 2) * (x9 - (ag_lit 1)))) (ag_lit 0) h11
    else
      f159_104 call l0 (((ag_lit8 100) * x5) + ((ag_lit 2) * (x9 - (ag_lit 1)))) (ag_lit 1) h11
  else
    f159_132 call l0 s0 (ag_lit 0) h
/-- NameSpacesModel.stat(I)I -/
def f159 (call : Nat → List ag_V → ag_H → ag_R)  (l0 : Option Nat) (l1 : Int32) (h : ag_H) : ag_R :=
  ag_at h l0 11 fun a1 _ => ag_bI (call 144 [.inr (some a1), .inl l1] h) fun x3 h2 =>
  if x3 = (ag_lit 0) then
    ag_pF h2 l0 11 41 (.inl (ag_lit 1)) fun h13 =>
    some (.inl (some (.inl (ag_lit 0))), h13)
  else
    ag_at h2 l0 11 fun a4 _ => ag_bI (call 138 [.inr (some a4), .inl (ag_lit 0)] h2) fun x6 h5 =>
    ag_at h5 l0 11 fun a7 _ => ag_bV (call 139 [.inr (some a7)] h5) fun h8 =>
    if x6 = (ag_lit 0) then
      f159_42 call l0 (ag_lit 4) h8
    else
      ag_gI h8 l0 11 4 fun x9 =>
      ag_at h8 l0 11 fun a10 _ => ag_bI (call 141 [.inr (some a10), .inl l1, .inl x9] h8) fun x12 h11 =>
      f159_42 call l0 x12 h11
set_option maxRecDepth 100000 in
set_option maxHeartbeats 4000000 in
theorem i159 (call : Nat → List ag_V → ag_H → ag_R) (B : ag_K4) (l0 : Option Nat) (l1 : Int32) (h : ag_H) : ag_in 1 call B t159 0 [some (.inr l0), some (.inl l1), none, none, none] [] h = f159 call  l0 l1 h := by
  rfl
set_option maxRecDepth 100000 in
set_option maxHeartbeats 4000000 in
theorem r159 (d : Nat) (l0 : Option Nat) (l1 : Int32) (h : ag_H) : ag_run gT (d + 1) 159 [.inr l0, .inl l1] h = f159 (ag_run gT d)  l0 l1 h := by
  show ag_out 1 (ag_run gT d) t159 4000 0 [some (.inr l0), some (.inl l1), none, none, none] [] h = _
  rw [ag_out_top, i159]
def f160_22 (call : Nat → List ag_V → ag_H → ag_R)  (s0 : Int32) (h : ag_H) : ag_R :=
  ag_isB s0 (some (.inl (some (.inl s0)), h))
def f160_21 (call : Nat → List ag_V → ag_H → ag_R)   (h : ag_H) : ag_R :=
  f160_22 call (ag_lit 0) h
/-- NameSpacesModel.isHow(I)Z -/
def f160 (call : Nat → List ag_V → ag_H → ag_R)  (l0 : Int32) (h : ag_H) : ag_R :=
  if l0 < (ag_lit 0) then
    f160_21 call h
  else
    if (ag_lit8 7) ≤ l0 then
      f160_21 call h
    else
      ag_dv (ag_lit 4) <|
      if (l0 - l0 / (ag_lit 4) * (ag_lit 4)) = (ag_lit 3) then
        f160_21 call h
      else
        f160_22 call (ag_lit 1) h
set_option maxRecDepth 100000 in
set_option maxHeartbeats 4000000 in
theorem i160 (call : Nat → List ag_V → ag_H → ag_R) (B : ag_K4) (l0 : Int32) (h : ag_H) : ag_in 4 call B t160 0 [some (.inl l0)] [] h = f160 call  l0 h := by
  rfl
set_option maxRecDepth 100000 in
set_option maxHeartbeats 4000000 in
theorem r160 (d : Nat) (l0 : Int32) (h : ag_H) : ag_run gT (d + 1) 160 [.inl l0] h = f160 (ag_run gT d)  l0 h := by
  show ag_out 4 (ag_run gT d) t160 4000 0 [some (.inl l0)] [] h = _
  rw [ag_out_top, i160]
def f161_8 (call : Nat → List ag_V → ag_H → ag_R) (b8 : Option Nat → Int32 → Int32 → Int32 → Int32 → Int32 → Int32 → ag_H → ag_R) (l0 : Option Nat) (l1 : Int32) (l2 : Int32) (l3 : Int32) (l4 : Int32) (l5 : Int32) (l6 : Int32) (h : ag_H) : ag_R :=
  if l6 ≤ l2 then
    ag_gR h l0 11 26 fun x1 =>
    ag_xP h x1 100 (((ag_lit 3) * l1) + l2) (.inl l3) fun h2 =>
    ag_gR h2 l0 11 27 fun x3 =>
    ag_xP h2 x3 100 (((ag_lit 3) * l1) + l2) (.inl l4) fun h4 =>
    ag_gR h4 l0 11 28 fun x5 =>
    ag_isB l5 <| ag_xP h4 x5 102 (((ag_lit 3) * l1) + l2) (.inl l5) fun h6 =>
    ag_gR h6 l0 11 25 fun x7 =>
    ag_xI h6 x7 100 l1 fun x8 =>
    ag_xP h6 x7 100 l1 (.inl (x8 + (ag_lit 1))) fun h9 =>
    some (.inl none, h9)
  else
    ag_gR h l0 11 26 fun x10 =>
    ag_gR h l0 11 26 fun x11 =>
    ag_xI h x11 100 ((((ag_lit 3) * l1) + l6) - (ag_lit 1)) fun x12 =>
    ag_xP h x10 100 (((ag_lit 3) * l1) + l6) (.inl x12) fun h13 =>
    ag_gR h13 l0 11 27 fun x14 =>
    ag_gR h13 l0 11 27 fun x15 =>
    ag_xI h13 x15 100 ((((ag_lit 3) * l1) + l6) - (ag_lit 1)) fun x16 =>
    ag_xP h13 x14 100 (((ag_lit 3) * l1) + l6) (.inl x16) fun h17 =>
    ag_gR h17 l0 11 28 fun x18 =>
    ag_gR h17 l0 11 28 fun x19 =>
    ag_xI h17 x19 102 ((((ag_lit 3) * l1) + l6) - (ag_lit 1)) fun x20 =>
    ag_isB x20 <| ag_xP h17 x18 102 (((ag_lit 3) * l1) + l6) (.inl x20) fun h21 =>
    b8 l0 l1 l2 l3 l4 l5 (l6 + ag_lit (-1)) h21
/-- NameSpacesModel.putMember(IIIIZ)V -/
def f161 (call : Nat → List ag_V → ag_H → ag_R) (b8 : Option Nat → Int32 → Int32 → Int32 → Int32 → Int32 → Int32 → ag_H → ag_R) (l0 : Option Nat) (l1 : Int32) (l2 : Int32) (l3 : Int32) (l4 : Int32) (l5 : Int32) (h : ag_H) : ag_R :=
  ag_gR h l0 11 25 fun x1 =>
  ag_xI h x1 100 l1 fun x2 =>
  f161_8 call b8 l0 l1 l2 l3 l4 l5 x2 h
def g161 (call : Nat → List ag_V → ag_H → ag_R) : Nat → Option Nat → Int32 → Int32 → Int32 → Int32 → Int32 → Int32 → ag_H → ag_R
  | 0 => fun _ _ _ _ _ _ _ _ => none
  | n + 1 => f161_8 call (g161 call n)
set_option maxRecDepth 100000 in
set_option maxHeartbeats 4000000 in
theorem i161_8 (call : Nat → List ag_V → ag_H → ag_R) (B : ag_K4) (l0 : Option Nat) (l1 : Int32) (l2 : Int32) (l3 : Int32) (l4 : Int32) (l5 : Int32) (l6 : Int32) (h : ag_H) : ag_in 0 call B t161 8 [some (.inr l0), some (.inl l1), some (.inl l2), some (.inl l3), some (.inl l4), some (.inl l5), some (.inl l6)] [] h = f161_8 call (fun (l0 : Option Nat) (l1 : Int32) (l2 : Int32) (l3 : Int32) (l4 : Int32) (l5 : Int32) (l6 : Int32) (h : ag_H) => B 8 [some (.inr l0), some (.inl l1), some (.inl l2), some (.inl l3), some (.inl l4), some (.inl l5), some (.inl l6)] [] h) l0 l1 l2 l3 l4 l5 l6 h := by
  rfl
set_option maxRecDepth 100000 in
set_option maxHeartbeats 4000000 in
theorem i161 (call : Nat → List ag_V → ag_H → ag_R) (B : ag_K4) (l0 : Option Nat) (l1 : Int32) (l2 : Int32) (l3 : Int32) (l4 : Int32) (l5 : Int32) (h : ag_H) : ag_in 0 call B t161 0 [some (.inr l0), some (.inl l1), some (.inl l2), some (.inl l3), some (.inl l4), some (.inl l5), none] [] h = f161 call (fun (l0 : Option Nat) (l1 : Int32) (l2 : Int32) (l3 : Int32) (l4 : Int32) (l5 : Int32) (l6 : Int32) (h : ag_H) => B 8 [some (.inr l0), some (.inl l1), some (.inl l2), some (.inl l3), some (.inl l4), some (.inl l5), some (.inl l6)] [] h) l0 l1 l2 l3 l4 l5 h := by
  rfl
set_option maxRecDepth 100000 in
set_option maxHeartbeats 4000000 in
theorem o161 (call : Nat → List ag_V → ag_H → ag_R) : ∀ n : Nat, (fun (l0 : Option Nat) (l1 : Int32) (l2 : Int32) (l3 : Int32) (l4 : Int32) (l5 : Int32) (l6 : Int32) (h : ag_H) => (ag_out 0 call t161 n) 8 [some (.inr l0), some (.inl l1), some (.inl l2), some (.inl l3), some (.inl l4), some (.inl l5), some (.inl l6)] [] h) = g161 call n := by
  intro n
  induction n with
  | zero => rfl
  | succ n ih =>
    funext l0 l1 l2 l3 l4 l5 l6 h
    show ag_in 0 call (ag_out 0 call t161 n) t161 8 [some (.inr l0), some (.inl l1), some (.inl l2), some (.inl l3), some (.inl l4), some (.inl l5), some (.inl l6)] [] h = f161_8 call (g161 call n) l0 l1 l2 l3 l4 l5 l6 h
    rw [i161_8, ih]
set_option maxRecDepth 100000 in
set_option maxHeartbeats 4000000 in
theorem r161 (d : Nat) (l0 : Option Nat) (l1 : Int32) (l2 : Int32) (l3 : Int32) (l4 : Int32) (l5 : Int32) (h : ag_H) : ag_run gT (d + 1) 161 [.inr l0, .inl l1, .inl l2, .inl l3, .inl l4, .inl l5] h = f161 (ag_run gT d) (g161 (ag_run gT d) 3999) l0 l1 l2 l3 l4 l5 h := by
  show ag_out 0 (ag_run gT d) t161 4000 0 [some (.inr l0), some (.inl l1), some (.inl l2), some (.inl l3), some (.inl l4), some (.inl l5), none] [] h = _
  rw [ag_out_top, i161, o161]
def f162_2 (call : Nat → List ag_V → ag_H → ag_R) (b2 : Option Nat → Int32 → Int32 → ag_H → ag_R) (l0 : Option Nat) (l1 : Int32) (l2 : Int32) (h : ag_H) : ag_R :=
  ag_gR h l0 11 25 fun x1 =>
  ag_xI h x1 100 l1 fun x2 =>
  if x2 ≤ l2 then
    ag_gR h l0 11 25 fun x3 =>
    ag_xP h x3 100 l1 (.inl (ag_lit 0)) fun h4 =>
    some (.inl none, h4)
  else
    ag_gR h l0 11 26 fun x5 =>
    ag_xI h x5 100 (((ag_lit 3) * l1) + l2) fun x6 =>
    ag_gR h l0 11 27 fun x7 =>
    ag_xI h x7 100 (((ag_lit 3) * l1) + l2) fun x8 =>
    ag_at h l0 11 fun a9 _ => ag_bV (call 132 [.inr (some a9), .inl x6, .inl x8] h) fun h10 =>
    b2 l0 l1 (l2 + ag_lit 1) h10
/-- NameSpacesModel.clunkMembers(I)V -/
def f162 (call : Nat → List ag_V → ag_H → ag_R) (b2 : Option Nat → Int32 → Int32 → ag_H → ag_R) (l0 : Option Nat) (l1 : Int32) (h : ag_H) : ag_R :=
  f162_2 call b2 l0 l1 (ag_lit 0) h
def g162 (call : Nat → List ag_V → ag_H → ag_R) : Nat → Option Nat → Int32 → Int32 → ag_H → ag_R
  | 0 => fun _ _ _ _ => none
  | n + 1 => f162_2 call (g162 call n)
set_option maxRecDepth 100000 in
set_option maxHeartbeats 4000000 in
theorem i162_2 (call : Nat → List ag_V → ag_H → ag_R) (B : ag_K4) (l0 : Option Nat) (l1 : Int32) (l2 : Int32) (h : ag_H) : ag_in 0 call B t162 2 [some (.inr l0), some (.inl l1), some (.inl l2)] [] h = f162_2 call (fun (l0 : Option Nat) (l1 : Int32) (l2 : Int32) (h : ag_H) => B 2 [some (.inr l0), some (.inl l1), some (.inl l2)] [] h) l0 l1 l2 h := by
  rfl
set_option maxRecDepth 100000 in
set_option maxHeartbeats 4000000 in
theorem i162 (call : Nat → List ag_V → ag_H → ag_R) (B : ag_K4) (l0 : Option Nat) (l1 : Int32) (h : ag_H) : ag_in 0 call B t162 0 [some (.inr l0), some (.inl l1), none] [] h = f162 call (fun (l0 : Option Nat) (l1 : Int32) (l2 : Int32) (h : ag_H) => B 2 [some (.inr l0), some (.inl l1), some (.inl l2)] [] h) l0 l1 h := by
  rfl
set_option maxRecDepth 100000 in
set_option maxHeartbeats 4000000 in
theorem o162 (call : Nat → List ag_V → ag_H → ag_R) : ∀ n : Nat, (fun (l0 : Option Nat) (l1 : Int32) (l2 : Int32) (h : ag_H) => (ag_out 0 call t162 n) 2 [some (.inr l0), some (.inl l1), some (.inl l2)] [] h) = g162 call n := by
  intro n
  induction n with
  | zero => rfl
  | succ n ih =>
    funext l0 l1 l2 h
    show ag_in 0 call (ag_out 0 call t162 n) t162 2 [some (.inr l0), some (.inl l1), some (.inl l2)] [] h = f162_2 call (g162 call n) l0 l1 l2 h
    rw [i162_2, ih]
set_option maxRecDepth 100000 in
set_option maxHeartbeats 4000000 in
theorem r162 (d : Nat) (l0 : Option Nat) (l1 : Int32) (h : ag_H) : ag_run gT (d + 1) 162 [.inr l0, .inl l1] h = f162 (ag_run gT d) (g162 (ag_run gT d) 3999) l0 l1 h := by
  show ag_out 0 (ag_run gT d) t162 4000 0 [some (.inr l0), some (.inl l1), none] [] h = _
  rw [ag_out_top, i162, o162]
def f163_331 (call : Nat → List ag_V → ag_H → ag_R)  (l0 : Option Nat) (l7 : Int32) (s0 : Option Nat) (s1 : Int32) (s2 : Int32) (s3 : Int32) (s4 : Int32) (s5 : Int32) (h : ag_H) : ag_R :=
  ag_at h s0 11 fun a1 _ => ag_bV (call 161 [.inr (some a1), .inl s1, .inl s2, .inl s3, .inl s4, .inl s5] h) fun h2 =>
  ag_gR h2 l0 11 25 fun x3 =>
  ag_xI h2 x3 100 l7 fun x4 =>
  ag_pF h2 l0 11 21 (.inl x4) fun h5 =>
  some (.inl (some (.inl (ag_lit 0))), h5)
def f163_316 (call : Nat → List ag_V → ag_H → ag_R)  (l0 : Option Nat) (l2 : Int32) (l3 : Int32) (l4 : Int32) (l7 : Int32) (s0 : Option Nat) (s1 : Int32) (s2 : Int32) (h : ag_H) : ag_R :=
  ag_dv (ag_lit 4) <|
  if (l4 / (ag_lit 4)) = (ag_lit 1) then
    f163_331 call l0 l7 s0 s1 s2 l2 l3 (ag_lit 1) h
  else
    f163_331 call l0 l7 s0 s1 s2 l2 l3 (ag_lit 0) h
def f163_294 (call : Nat → List ag_V → ag_H → ag_R)  (l0 : Option Nat) (l2 : Int32) (l3 : Int32) (l4 : Int32) (l7 : Int32) (h : ag_H) : ag_R :=
  ag_dv (ag_lit 4) <|
  if (l4 - l4 / (ag_lit 4) * (ag_lit 4)) = (ag_lit 2) then
    ag_gR h l0 11 25 fun x1 =>
    ag_xI h x1 100 l7 fun x2 =>
    f163_316 call l0 l2 l3 l4 l7 l0 l7 x2 h
  else
    f163_316 call l0 l2 l3 l4 l7 l0 l7 (ag_lit 0) h
def f163_282 (call : Nat → List ag_V → ag_H → ag_R)  (l0 : Option Nat) (l2 : Int32) (l3 : Int32) (l4 : Int32) (l7 : Int32) (h : ag_H) : ag_R :=
  ag_gI h l0 11 38 fun x1 =>
  ag_gI h l0 11 39 fun x2 =>
  ag_at h l0 11 fun a3 _ => ag_bV (call 132 [.inr (some a3), .inl x1, .inl x2] h) fun h4 =>
  f163_294 call l0 l2 l3 l4 l7 h4
def f163_247 (call : Nat → List ag_V → ag_H → ag_R)  (l0 : Option Nat) (l2 : Int32) (l3 : Int32) (l4 : Int32) (l7 : Int32) (l8 : Int32) (h : ag_H) : ag_R :=
  if l8 = (ag_lit 0) then
    f163_282 call l0 l2 l3 l4 l7 h
  else
    ag_dv (ag_lit 4) <|
    if (l4 - l4 / (ag_lit 4) * (ag_lit 4)) = (ag_lit 0) then
      f163_282 call l0 l2 l3 l4 l7 h
    else
      ag_at h l0 11 fun a1 _ => ag_bV (call 143 [.inr (some a1)] h) fun h2 =>
      ag_gI h2 l0 11 38 fun x3 =>
      ag_gI h2 l0 11 39 fun x4 =>
      ag_at h2 l0 11 fun a5 _ => ag_bV (call 161 [.inr (some a5), .inl l7, .inl (ag_lit 0), .inl x3, .inl x4, .inl (ag_lit 1)] h2) fun h6 =>
      f163_294 call l0 l2 l3 l4 l7 h6
def f163_234 (call : Nat → List ag_V → ag_H → ag_R)  (l0 : Option Nat) (l2 : Int32) (l3 : Int32) (l4 : Int32) (l7 : Int32) (l8 : Int32) (h : ag_H) : ag_R :=
  ag_dv (ag_lit 4) <|
  if (l4 - l4 / (ag_lit 4) * (ag_lit 4)) = (ag_lit 0) then
    ag_at h l0 11 fun a1 _ => ag_bV (call 162 [.inr (some a1), .inl l7] h) fun h2 =>
    f163_247 call l0 l2 l3 l4 l7 l8 h2
  else
    f163_247 call l0 l2 l3 l4 l7 l8 h
def f163_152 (call : Nat → List ag_V → ag_H → ag_R)  (l0 : Option Nat) (l1 : Int32) (l2 : Int32) (l3 : Int32) (l4 : Int32) (l6 : Int32) (l7 : Int32) (l8 : Int32) (h : ag_H) : ag_R :=
  if l8 = (ag_lit 0) then
    f163_234 call l0 l2 l3 l4 l7 l8 h
  else
    ag_gR h l0 11 22 fun x1 =>
    ag_gR h l0 11 30 fun x2 =>
    ag_xI h x2 100 l1 fun x3 =>
    ag_xI h x1 100 x3 fun x4 =>
    ag_gR h l0 11 23 fun x5 =>
    ag_gI h l0 11 38 fun x6 =>
    ag_xP h x5 100 (l6 + x4) (.inl x6) fun h7 =>
    ag_gR h7 l0 11 24 fun x8 =>
    ag_gR h7 l0 11 14 fun x9 =>
    ag_gI h7 l0 11 38 fun x10 =>
    ag_gI h7 l0 11 39 fun x11 =>
    ag_xI h7 x9 100 (((ag_lit16 200) * x10) + x11) fun x12 =>
    ag_xP h7 x8 100 (l6 + x4) (.inl (x12 - (ag_lit 1))) fun h13 =>
    ag_gR h13 l0 11 25 fun x14 =>
    ag_xP h13 x14 100 (l6 + x4) (.inl (ag_lit 0)) fun h15 =>
    ag_gR h15 l0 11 22 fun x16 =>
    ag_gR h15 l0 11 30 fun x17 =>
    ag_xI h15 x17 100 l1 fun x18 =>
    ag_xI h15 x16 100 x18 fun x19 =>
    ag_xP h15 x16 100 x18 (.inl (x19 + (ag_lit 1))) fun h20 =>
    f163_234 call l0 l2 l3 l4 (l6 + x4) l8 h20
def f163_132 (call : Nat → List ag_V → ag_H → ag_R)  (l0 : Option Nat) (l2 : Int32) (l3 : Int32) (h : ag_H) : ag_R :=
  ag_gI h l0 11 38 fun x1 =>
  ag_gI h l0 11 39 fun x2 =>
  ag_at h l0 11 fun a3 _ => ag_bV (call 132 [.inr (some a3), .inl x1, .inl x2] h) fun h4 =>
  ag_at h4 l0 11 fun a5 _ => ag_bV (call 132 [.inr (some a5), .inl l2, .inl l3] h4) fun h6 =>
  some (.inl (some (.inl (ag_lit 3))), h6)
def f163_109 (call : Nat → List ag_V → ag_H → ag_R)  (l0 : Option Nat) (l1 : Int32) (l2 : Int32) (l3 : Int32) (l4 : Int32) (l6 : Int32) (l7 : Int32) (l8 : Int32) (h : ag_H) : ag_R :=
  if l8 = (ag_lit 0) then
    ag_gR h l0 11 25 fun x1 =>
    ag_xI h x1 100 l7 fun x2 =>
    if x2 = (ag_lit 3) then
      ag_dv (ag_lit 4) <|
      if (l4 - l4 / (ag_lit 4) * (ag_lit 4)) = (ag_lit 0) then
        f163_152 call l0 l1 l2 l3 l4 l6 l7 l8 h
      else
        f163_132 call l0 l2 l3 h
    else
      f163_152 call l0 l1 l2 l3 l4 l6 l7 l8 h
  else
    f163_152 call l0 l1 l2 l3 l4 l6 l7 l8 h
def f163_87 (call : Nat → List ag_V → ag_H → ag_R)  (l0 : Option Nat) (l1 : Int32) (l2 : Int32) (l3 : Int32) (l4 : Int32) (l6 : Int32) (l7 : Int32) (s0 : Int32) (h : ag_H) : ag_R :=
  if s0 = (ag_lit 0) then
    f163_109 call l0 l1 l2 l3 l4 l6 l7 s0 h
  else
    ag_gR h l0 11 22 fun x1 =>
    ag_gR h l0 11 30 fun x2 =>
    ag_xI h x2 100 l1 fun x3 =>
    ag_xI h x1 100 x3 fun x4 =>
    if x4 = (ag_lit 4) then
      f163_132 call l0 l2 l3 h
    else
      f163_109 call l0 l1 l2 l3 l4 l6 l7 s0 h
def f163_38 (call : Nat → List ag_V → ag_H → ag_R)  (l0 : Option Nat) (l1 : Int32) (l2 : Int32) (l3 : Int32) (l4 : Int32) (l5 : Int32) (h : ag_H) : ag_R :=
  if l5 = (ag_lit 0) then
    ag_gR h l0 11 30 fun x1 =>
    ag_xI h x1 100 l1 fun x2 =>
    ag_gI h l0 11 38 fun x3 =>
    ag_gI h l0 11 39 fun x4 =>
    ag_at h l0 11 fun a5 _ => ag_bI (call 140 [.inr (some a5), .inl l1, .inl x3, .inl x4] h) fun x7 h6 =>
    if (ag_lit 0) ≤ x7 then
      f163_87 call l0 l1 l2 l3 l4 ((ag_lit 4) * x2) x7 (ag_lit 0) h6
    else
      f163_87 call l0 l1 l2 l3 l4 ((ag_lit 4) * x2) x7 (ag_lit 1) h6
  else
    ag_at h l0 11 fun a8 _ => ag_bV (call 132 [.inr (some a8), .inl l2, .inl l3] h) fun h9 =>
    some (.inl (some (.inl l5)), h9)
/-- NameSpacesModel.bound(IIII)I -/
def f163 (call : Nat → List ag_V → ag_H → ag_R)  (l0 : Option Nat) (l1 : Int32) (l2 : Int32) (l3 : Int32) (l4 : Int32) (h : ag_H) : ag_R :=
  ag_gI h l0 11 4 fun x1 =>
  ag_at h l0 11 fun a2 _ => ag_bI (call 141 [.inr (some a2), .inl l1, .inl x1] h) fun x4 h3 =>
  if x4 = (ag_lit 0) then
    ag_at h3 l0 11 fun a5 _ => ag_bI (call 142 [.inr (some a5)] h3) fun x7 h6 =>
    if x7 = (ag_lit 0) then
      ag_gI h6 l0 11 38 fun x8 =>
      ag_gI h6 l0 11 39 fun x9 =>
      ag_at h6 l0 11 fun a10 _ => ag_bV (call 132 [.inr (some a10), .inl x8, .inl x9] h6) fun h11 =>
      f163_38 call l0 l1 l2 l3 l4 (ag_lit 2) h11
    else
      f163_38 call l0 l1 l2 l3 l4 x4 h6
  else
    f163_38 call l0 l1 l2 l3 l4 x4 h3
set_option maxRecDepth 100000 in
set_option maxHeartbeats 4000000 in
theorem i163 (call : Nat → List ag_V → ag_H → ag_R) (B : ag_K4) (l0 : Option Nat) (l1 : Int32) (l2 : Int32) (l3 : Int32) (l4 : Int32) (h : ag_H) : ag_in 1 call B t163 0 [some (.inr l0), some (.inl l1), some (.inl l2), some (.inl l3), some (.inl l4), none, none, none, none] [] h = f163 call  l0 l1 l2 l3 l4 h := by
  rfl
set_option maxRecDepth 100000 in
set_option maxHeartbeats 4000000 in
theorem r163 (d : Nat) (l0 : Option Nat) (l1 : Int32) (l2 : Int32) (l3 : Int32) (l4 : Int32) (h : ag_H) : ag_run gT (d + 1) 163 [.inr l0, .inl l1, .inl l2, .inl l3, .inl l4] h = f163 (ag_run gT d)  l0 l1 l2 l3 l4 h := by
  show ag_out 1 (ag_run gT d) t163 4000 0 [some (.inr l0), some (.inl l1), some (.inl l2), some (.inl l3), some (.inl l4), none, none, none, none] [] h = _
  rw [ag_out_top, i163]
def f164_163 (call : Nat → List ag_V → ag_H → ag_R)  (s0 : Int32) (h : ag_H) : ag_R :=
  some (.inl (some (.inl s0)), h)
def f164_139 (call : Nat → List ag_V → ag_H → ag_R)  (l0 : Option Nat) (l4 : Int32) (h : ag_H) : ag_R :=
  ag_at h l0 11 fun a1 _ => ag_bV (call 139 [.inr (some a1)] h) fun h2 =>
  ag_at h2 l0 11 fun a3 _ => ag_bI (call 149 [.inr (some a3), .inl l4, .inl (ag_lit 3), .inl (ag_lit 4), .inl (ag_lit 2)] h2) fun x5 h4 =>
  if x5 = (ag_lit 0) then
    ag_gI h4 l0 11 21 fun x6 =>
    f164_163 call x6 h4
  else
    f164_163 call (ag_lit 0) h4
def f164_137 (call : Nat → List ag_V → ag_H → ag_R)  (l0 : Option Nat) (s0 : Int32) (h : ag_H) : ag_R :=
  f164_139 call l0 s0 h
def f164_90 (call : Nat → List ag_V → ag_H → ag_R)  (l0 : Option Nat) (l1 : Int32) (l2 : Int32) (l4 : Int32) (h : ag_H) : ag_R :=
  if l4 = (ag_lit 0) then
    ag_at h l0 11 fun a1 _ => ag_bV (call 143 [.inr (some a1)] h) fun h2 =>
    ag_gI h2 l0 11 38 fun x3 =>
    ag_gI h2 l0 11 39 fun x4 =>
    ag_at h2 l0 11 fun a5 _ => ag_bI (call 138 [.inr (some a5), .inl (ag_lit 0)] h2) fun x7 h6 =>
    if x7 = (ag_lit 0) then
      f164_137 call l0 (ag_lit 4) h6
    else
      ag_at h6 l0 11 fun a8 _ => ag_bI (call 163 [.inr (some a8), .inl l1, .inl x3, .inl x4, .inl l2] h6) fun x10 h9 =>
      f164_137 call l0 x10 h9
  else
    f164_139 call l0 l4 h
def f164_61 (call : Nat → List ag_V → ag_H → ag_R)  (l0 : Option Nat) (l1 : Int32) (l2 : Int32) (s0 : Int32) (h : ag_H) : ag_R :=
  if s0 = (ag_lit 0) then
    ag_at h l0 11 fun a1 _ => ag_bI (call 142 [.inr (some a1)] h) fun x3 h2 =>
    if x3 = (ag_lit 0) then
      ag_gI h2 l0 11 38 fun x4 =>
      ag_gI h2 l0 11 39 fun x5 =>
      ag_at h2 l0 11 fun a6 _ => ag_bV (call 132 [.inr (some a6), .inl x4, .inl x5] h2) fun h7 =>
      f164_90 call l0 l1 l2 (ag_lit 2) h7
    else
      f164_90 call l0 l1 l2 s0 h2
  else
    f164_90 call l0 l1 l2 s0 h
def f164_43 (call : Nat → List ag_V → ag_H → ag_R)  (l0 : Option Nat) (l1 : Int32) (l2 : Int32) (s0 : Int32) (h : ag_H) : ag_R :=
  if s0 = (ag_lit 0) then
    f164_61 call l0 l1 l2 (ag_lit 4) h
  else
    ag_gI h l0 11 4 fun x1 =>
    ag_at h l0 11 fun a2 _ => ag_bI (call 141 [.inr (some a2), .inl l1, .inl x1] h) fun x4 h3 =>
    f164_61 call l0 l1 l2 x4 h3
def f164_42 (call : Nat → List ag_V → ag_H → ag_R)  (l0 : Option Nat) (l1 : Int32) (l2 : Int32) (h : ag_H) : ag_R :=
  f164_43 call l0 l1 l2 (ag_lit 0) h
/-- NameSpacesModel.bind(II)I -/
def f164 (call : Nat → List ag_V → ag_H → ag_R)  (l0 : Option Nat) (l1 : Int32) (l2 : Int32) (h : ag_H) : ag_R :=
  ag_at h l0 11 fun a1 _ => ag_bI (call 144 [.inr (some a1), .inl l1] h) fun x3 h2 =>
  if x3 = (ag_lit 0) then
    ag_pF h2 l0 11 41 (.inl (ag_lit 1)) fun h12 =>
    some (.inl (some (.inl (ag_lit 0))), h12)
  else
    ag_at h2 l0 11 fun a4 _ => ag_bI (call 138 [.inr (some a4), .inl (ag_lit 0)] h2) fun x6 h5 =>
    if x6 = (ag_lit 0) then
      f164_42 call l0 l1 l2 h5
    else
      ag_at h5 l0 11 fun a7 _ => ag_bI (call 138 [.inr (some a7), .inl (ag_lit 1)] h5) fun x9 h8 =>
      if x9 = (ag_lit 0) then
        f164_42 call l0 l1 l2 h8
      else
        ag_bI (call 160 [.inl l2] h8) fun x11 h10 =>
        if x11 = (ag_lit 0) then
          f164_42 call l0 l1 l2 h10
        else
          f164_43 call l0 l1 l2 (ag_lit 1) h10
set_option maxRecDepth 100000 in
set_option maxHeartbeats 4000000 in
theorem i164 (call : Nat → List ag_V → ag_H → ag_R) (B : ag_K4) (l0 : Option Nat) (l1 : Int32) (l2 : Int32) (h : ag_H) : ag_in 1 call B t164 0 [some (.inr l0), some (.inl l1), some (.inl l2), none, none, none, none, none] [] h = f164 call  l0 l1 l2 h := by
  rfl
set_option maxRecDepth 100000 in
set_option maxHeartbeats 4000000 in
theorem r164 (d : Nat) (l0 : Option Nat) (l1 : Int32) (l2 : Int32) (h : ag_H) : ag_run gT (d + 1) 164 [.inr l0, .inl l1, .inl l2] h = f164 (ag_run gT d)  l0 l1 l2 h := by
  show ag_out 1 (ag_run gT d) t164 4000 0 [some (.inr l0), some (.inl l1), some (.inl l2), none, none, none, none, none] [] h = _
  rw [ag_out_top, i164]
def f165_103 (call : Nat → List ag_V → ag_H → ag_R)  (s0 : Int32) (h : ag_H) : ag_R :=
  some (.inl (some (.inl s0)), h)
def f165_83 (call : Nat → List ag_V → ag_H → ag_R)  (l0 : Option Nat) (l5 : Int32) (h : ag_H) : ag_R :=
  ag_at h l0 11 fun a1 _ => ag_bI (call 149 [.inr (some a1), .inl l5, .inl (ag_lit 3), .inl (ag_lit 4), .inl (ag_lit 2)] h) fun x3 h2 =>
  if x3 = (ag_lit 0) then
    ag_gI h2 l0 11 21 fun x4 =>
    f165_103 call x4 h2
  else
    f165_103 call (ag_lit 0) h2
def f165_44 (call : Nat → List ag_V → ag_H → ag_R)  (l0 : Option Nat) (l1 : Int32) (l2 : Int32) (l3 : Int32) (s0 : Int32) (h : ag_H) : ag_R :=
  ag_at h l0 11 fun a1 _ => ag_bV (call 139 [.inr (some a1)] h) fun h2 =>
  if s0 = (ag_lit 0) then
    f165_83 call l0 (ag_lit 4) h2
  else
    ag_at h2 l0 11 fun a3 _ => ag_bI (call 122 [.inr (some a3), .inl l2] h2) fun x5 h4 =>
    ag_at h4 l0 11 fun a6 _ => ag_bV (call 123 [.inr (some a6), .inl l2, .inl x5] h4) fun h7 =>
    ag_at h7 l0 11 fun a8 _ => ag_bI (call 163 [.inr (some a8), .inl l1, .inl l2, .inl x5, .inl l3] h7) fun x10 h9 =>
    f165_83 call l0 x10 h9
def f165_43 (call : Nat → List ag_V → ag_H → ag_R)  (l0 : Option Nat) (l1 : Int32) (l2 : Int32) (l3 : Int32) (h : ag_H) : ag_R :=
  f165_44 call l0 l1 l2 l3 (ag_lit 0) h
/-- NameSpacesModel.mount(III)I -/
def f165 (call : Nat → List ag_V → ag_H → ag_R)  (l0 : Option Nat) (l1 : Int32) (l2 : Int32) (l3 : Int32) (h : ag_H) : ag_R :=
  ag_at h l0 11 fun a1 _ => ag_bI (call 144 [.inr (some a1), .inl l1] h) fun x3 h2 =>
  if x3 = (ag_lit 0) then
    ag_pF h2 l0 11 41 (.inl (ag_lit 1)) fun h11 =>
    some (.inl (some (.inl (ag_lit 0))), h11)
  else
    ag_at h2 l0 11 fun a4 _ => ag_bI (call 138 [.inr (some a4), .inl (ag_lit 0)] h2) fun x6 h5 =>
    if x6 = (ag_lit 0) then
      f165_43 call l0 l1 l2 l3 h5
    else
      ag_bI (call 160 [.inl l3] h5) fun x8 h7 =>
      if x8 = (ag_lit 0) then
        f165_43 call l0 l1 l2 l3 h7
      else
        ag_bI (call 114 [.inl l2, .inl (ag_lit 0), .inl (ag_lit 1)] h7) fun x10 h9 =>
        if x10 = (ag_lit 0) then
          f165_44 call l0 l1 l2 l3 (ag_lit 1) h9
        else
          f165_43 call l0 l1 l2 l3 h9
set_option maxRecDepth 100000 in
set_option maxHeartbeats 4000000 in
theorem i165 (call : Nat → List ag_V → ag_H → ag_R) (B : ag_K4) (l0 : Option Nat) (l1 : Int32) (l2 : Int32) (l3 : Int32) (h : ag_H) : ag_in 1 call B t165 0 [some (.inr l0), some (.inl l1), some (.inl l2), some (.inl l3), none, none, none] [] h = f165 call  l0 l1 l2 l3 h := by
  rfl
set_option maxRecDepth 100000 in
set_option maxHeartbeats 4000000 in
theorem r165 (d : Nat) (l0 : Option Nat) (l1 : Int32) (l2 : Int32) (l3 : Int32) (h : ag_H) : ag_run gT (d + 1) 165 [.inr l0, .inl l1, .inl l2, .inl l3] h = f165 (ag_run gT d)  l0 l1 l2 l3 h := by
  show ag_out 1 (ag_run gT d) t165 4000 0 [some (.inr l0), some (.inl l1), some (.inl l2), some (.inl l3), none, none, none] [] h = _
  rw [ag_out_top, i165]
def f166_96 (call : Nat → List ag_V → ag_H → ag_R) (b27 : Option Nat → Int32 → Int32 → Int32 → ag_H → ag_R) (b96 : Option Nat → Int32 → Int32 → Int32 → Int32 → ag_H → ag_R) (l0 : Option Nat) (l1 : Int32) (l3 : Int32) (l4 : Int32) (l5 : Int32) (h : ag_H) : ag_R :=
  if (ag_lit 3) ≤ l5 then
    b27 l0 l1 l3 (l4 + ag_lit 1) h
  else
    ag_gR h l0 11 26 fun x1 =>
    ag_gR h l0 11 26 fun x2 =>
    ag_xI h x2 100 ((((ag_lit 3) * l4) + (ag_lit 3)) + l5) fun x3 =>
    ag_xP h x1 100 (((ag_lit 3) * l4) + l5) (.inl x3) fun h4 =>
    ag_gR h4 l0 11 27 fun x5 =>
    ag_gR h4 l0 11 27 fun x6 =>
    ag_xI h4 x6 100 ((((ag_lit 3) * l4) + (ag_lit 3)) + l5) fun x7 =>
    ag_xP h4 x5 100 (((ag_lit 3) * l4) + l5) (.inl x7) fun h8 =>
    ag_gR h8 l0 11 28 fun x9 =>
    ag_gR h8 l0 11 28 fun x10 =>
    ag_xI h8 x10 102 ((((ag_lit 3) * l4) + (ag_lit 3)) + l5) fun x11 =>
    ag_isB x11 <| ag_xP h8 x9 102 (((ag_lit 3) * l4) + l5) (.inl x11) fun h12 =>
    b96 l0 l1 l3 l4 (l5 + ag_lit 1) h12
def f166_27 (call : Nat → List ag_V → ag_H → ag_R) (b27 : Option Nat → Int32 → Int32 → Int32 → ag_H → ag_R) (b96 : Option Nat → Int32 → Int32 → Int32 → Int32 → ag_H → ag_R) (l0 : Option Nat) (l1 : Int32) (l3 : Int32) (l4 : Int32) (h : ag_H) : ag_R :=
  ag_gR h l0 11 22 fun x1 =>
  ag_gR h l0 11 30 fun x2 =>
  ag_xI h x2 100 l1 fun x3 =>
  ag_xI h x1 100 x3 fun x4 =>
  if (l3 + x4) ≤ l4 then
    some (.inl none, h)
  else
    ag_gR h l0 11 23 fun x5 =>
    ag_gR h l0 11 23 fun x6 =>
    ag_xI h x6 100 (l4 + (ag_lit 1)) fun x7 =>
    ag_xP h x5 100 l4 (.inl x7) fun h8 =>
    ag_gR h8 l0 11 24 fun x9 =>
    ag_gR h8 l0 11 24 fun x10 =>
    ag_xI h8 x10 100 (l4 + (ag_lit 1)) fun x11 =>
    ag_xP h8 x9 100 l4 (.inl x11) fun h12 =>
    ag_gR h12 l0 11 25 fun x13 =>
    ag_gR h12 l0 11 25 fun x14 =>
    ag_xI h12 x14 100 (l4 + (ag_lit 1)) fun x15 =>
    ag_xP h12 x13 100 l4 (.inl x15) fun h16 =>
    f166_96 call b27 b96 l0 l1 l3 l4 (ag_lit 0) h16
/-- NameSpacesModel.dropPlace(II)V -/
def f166 (call : Nat → List ag_V → ag_H → ag_R) (b27 : Option Nat → Int32 → Int32 → Int32 → ag_H → ag_R) (b96 : Option Nat → Int32 → Int32 → Int32 → Int32 → ag_H → ag_R) (l0 : Option Nat) (l1 : Int32) (l2 : Int32) (h : ag_H) : ag_R :=
  ag_gR h l0 11 30 fun x1 =>
  ag_xI h x1 100 l1 fun x2 =>
  ag_gR h l0 11 22 fun x3 =>
  ag_gR h l0 11 30 fun x4 =>
  ag_xI h x4 100 l1 fun x5 =>
  ag_xI h x3 100 x5 fun x6 =>
  ag_xP h x3 100 x5 (.inl (x6 - (ag_lit 1))) fun h7 =>
  f166_27 call b27 b96 l0 l1 ((ag_lit 4) * x2) l2 h7
def g166 (call : Nat → List ag_V → ag_H → ag_R) : Nat → (Option Nat → Int32 → Int32 → Int32 → ag_H → ag_R) × (Option Nat → Int32 → Int32 → Int32 → Int32 → ag_H → ag_R)
  | 0 => (fun _ _ _ _ _ => none, fun _ _ _ _ _ _ => none)
  | n + 1 => (f166_27 call (g166 call n).1 (g166 call n).2, f166_96 call (g166 call n).1 (g166 call n).2)
set_option maxRecDepth 100000 in
set_option maxHeartbeats 4000000 in
theorem i166_27 (call : Nat → List ag_V → ag_H → ag_R) (B : ag_K4) (l0 : Option Nat) (l1 : Int32) (l3 : Int32) (l4 : Int32) (h : ag_H) : ag_in 0 call B t166 27 [some (.inr l0), some (.inl l1), none, some (.inl l3), some (.inl l4), none] [] h = f166_27 call (fun (l0 : Option Nat) (l1 : Int32) (l3 : Int32) (l4 : Int32) (h : ag_H) => B 27 [some (.inr l0), some (.inl l1), none, some (.inl l3), some (.inl l4), none] [] h) (fun (l0 : Option Nat) (l1 : Int32) (l3 : Int32) (l4 : Int32) (l5 : Int32) (h : ag_H) => B 96 [some (.inr l0), some (.inl l1), none, some (.inl l3), some (.inl l4), some (.inl l5)] [] h) l0 l1 l3 l4 h := by
  rfl
set_option maxRecDepth 100000 in
set_option maxHeartbeats 4000000 in
theorem i166_96 (call : Nat → List ag_V → ag_H → ag_R) (B : ag_K4) (l0 : Option Nat) (l1 : Int32) (l3 : Int32) (l4 : Int32) (l5 : Int32) (h : ag_H) : ag_in 0 call B t166 96 [some (.inr l0), some (.inl l1), none, some (.inl l3), some (.inl l4), some (.inl l5)] [] h = f166_96 call (fun (l0 : Option Nat) (l1 : Int32) (l3 : Int32) (l4 : Int32) (h : ag_H) => B 27 [some (.inr l0), some (.inl l1), none, some (.inl l3), some (.inl l4), none] [] h) (fun (l0 : Option Nat) (l1 : Int32) (l3 : Int32) (l4 : Int32) (l5 : Int32) (h : ag_H) => B 96 [some (.inr l0), some (.inl l1), none, some (.inl l3), some (.inl l4), some (.inl l5)] [] h) l0 l1 l3 l4 l5 h := by
  rfl
set_option maxRecDepth 100000 in
set_option maxHeartbeats 4000000 in
theorem i166 (call : Nat → List ag_V → ag_H → ag_R) (B : ag_K4) (l0 : Option Nat) (l1 : Int32) (l2 : Int32) (h : ag_H) : ag_in 0 call B t166 0 [some (.inr l0), some (.inl l1), some (.inl l2), none, none, none] [] h = f166 call (fun (l0 : Option Nat) (l1 : Int32) (l3 : Int32) (l4 : Int32) (h : ag_H) => B 27 [some (.inr l0), some (.inl l1), none, some (.inl l3), some (.inl l4), none] [] h) (fun (l0 : Option Nat) (l1 : Int32) (l3 : Int32) (l4 : Int32) (l5 : Int32) (h : ag_H) => B 96 [some (.inr l0), some (.inl l1), none, some (.inl l3), some (.inl l4), some (.inl l5)] [] h) l0 l1 l2 h := by
  rfl
set_option maxRecDepth 100000 in
set_option maxHeartbeats 4000000 in
theorem o166 (call : Nat → List ag_V → ag_H → ag_R) : ∀ n : Nat, (fun (l0 : Option Nat) (l1 : Int32) (l3 : Int32) (l4 : Int32) (h : ag_H) => (ag_out 0 call t166 n) 27 [some (.inr l0), some (.inl l1), none, some (.inl l3), some (.inl l4), none] [] h) = (g166 call n).1 ∧ (fun (l0 : Option Nat) (l1 : Int32) (l3 : Int32) (l4 : Int32) (l5 : Int32) (h : ag_H) => (ag_out 0 call t166 n) 96 [some (.inr l0), some (.inl l1), none, some (.inl l3), some (.inl l4), some (.inl l5)] [] h) = (g166 call n).2 := by
  intro n
  induction n with
  | zero => exact ⟨rfl, rfl⟩
  | succ n ih =>
    obtain ⟨e0, e1⟩ := ih
    refine ⟨?_, ?_⟩
    · funext l0 l1 l3 l4 h
      show ag_in 0 call (ag_out 0 call t166 n) t166 27 [some (.inr l0), some (.inl l1), none, some (.inl l3), some (.inl l4), none] [] h = f166_27 call (g166 call n).1 (g166 call n).2 l0 l1 l3 l4 h
      rw [i166_27, e0, e1]
    · funext l0 l1 l3 l4 l5 h
      show ag_in 0 call (ag_out 0 call t166 n) t166 96 [some (.inr l0), some (.inl l1), none, some (.inl l3), some (.inl l4), some (.inl l5)] [] h = f166_96 call (g166 call n).1 (g166 call n).2 l0 l1 l3 l4 l5 h
      rw [i166_96, e0, e1]
set_option maxRecDepth 100000 in
set_option maxHeartbeats 4000000 in
theorem r166 (d : Nat) (l0 : Option Nat) (l1 : Int32) (l2 : Int32) (h : ag_H) : ag_run gT (d + 1) 166 [.inr l0, .inl l1, .inl l2] h = f166 (ag_run gT d) (g166 (ag_run gT d) 3999).1 (g166 (ag_run gT d) 3999).2 l0 l1 l2 h := by
  show ag_out 0 (ag_run gT d) t166 4000 0 [some (.inr l0), some (.inl l1), some (.inl l2), none, none, none] [] h = _
  rw [ag_out_top, i166, (o166 (ag_run gT d) 3999).1, (o166 (ag_run gT d) 3999).2]
def f167_129 (call : Nat → List ag_V → ag_H → ag_R)  (s0 : Int32) (h : ag_H) : ag_R :=
  some (.inl (some (.inl s0)), h)
def f167_103 (call : Nat → List ag_V → ag_H → ag_R)  (l0 : Option Nat) (l1 : Int32) (l3 : Int32) (h : ag_H) : ag_R :=
  ag_at h l0 11 fun a1 _ => ag_bI (call 149 [.inr (some a1), .inl l3, .inl (ag_lit 2), .inl (ag_lit 3), .inl (ag_lit 0)] h) fun x3 h2 =>
  if x3 = (ag_lit 0) then
    ag_gR h2 l0 11 22 fun x4 =>
    ag_gR h2 l0 11 30 fun x5 =>
    ag_xI h2 x5 100 l1 fun x6 =>
    ag_xI h2 x4 100 x6 fun x7 =>
    f167_129 call x7 h2
  else
    f167_129 call (ag_lit 0) h2
def f167_90 (call : Nat → List ag_V → ag_H → ag_R)  (l0 : Option Nat) (l1 : Int32) (s0 : Int32) (h : ag_H) : ag_R :=
  ag_gI h l0 11 38 fun x1 =>
  ag_gI h l0 11 39 fun x2 =>
  ag_at h l0 11 fun a3 _ => ag_bV (call 132 [.inr (some a3), .inl x1, .inl x2] h) fun h4 =>
  f167_103 call l0 l1 s0 h4
def f167_80 (call : Nat → List ag_V → ag_H → ag_R)  (l0 : Option Nat) (l1 : Int32) (l4 : Int32) (h : ag_H) : ag_R :=
  if (ag_lit 0) ≤ l4 then
    f167_90 call l0 l1 (ag_lit 0) h
  else
    f167_90 call l0 l1 (ag_lit 2) h
def f167_42 (call : Nat → List ag_V → ag_H → ag_R)  (l0 : Option Nat) (l1 : Int32) (s0 : Int32) (h : ag_H) : ag_R :=
  if s0 = (ag_lit 0) then
    ag_gI h l0 11 38 fun x1 =>
    ag_gI h l0 11 39 fun x2 =>
    ag_at h l0 11 fun a3 _ => ag_bI (call 140 [.inr (some a3), .inl l1, .inl x1, .inl x2] h) fun x5 h4 =>
    if x5 < (ag_lit 0) then
      f167_80 call l0 l1 x5 h4
    else
      ag_at h4 l0 11 fun a6 _ => ag_bV (call 162 [.inr (some a6), .inl x5] h4) fun h7 =>
      ag_at h7 l0 11 fun a8 _ => ag_bV (call 166 [.inr (some a8), .inl l1, .inl x5] h7) fun h9 =>
      f167_80 call l0 l1 x5 h9
  else
    f167_103 call l0 l1 s0 h
/-- NameSpacesModel.unmount(I)I -/
def f167 (call : Nat → List ag_V → ag_H → ag_R)  (l0 : Option Nat) (l1 : Int32) (h : ag_H) : ag_R :=
  ag_at h l0 11 fun a1 _ => ag_bI (call 144 [.inr (some a1), .inl l1] h) fun x3 h2 =>
  if x3 = (ag_lit 0) then
    ag_pF h2 l0 11 41 (.inl (ag_lit 1)) fun h13 =>
    some (.inl (some (.inl (ag_lit 0))), h13)
  else
    ag_at h2 l0 11 fun a4 _ => ag_bI (call 138 [.inr (some a4), .inl (ag_lit 0)] h2) fun x6 h5 =>
    ag_at h5 l0 11 fun a7 _ => ag_bV (call 139 [.inr (some a7)] h5) fun h8 =>
    if x6 = (ag_lit 0) then
      f167_42 call l0 l1 (ag_lit 4) h8
    else
      ag_gI h8 l0 11 4 fun x9 =>
      ag_at h8 l0 11 fun a10 _ => ag_bI (call 141 [.inr (some a10), .inl l1, .inl x9] h8) fun x12 h11 =>
      f167_42 call l0 l1 x12 h11
set_option maxRecDepth 100000 in
set_option maxHeartbeats 4000000 in
theorem i167 (call : Nat → List ag_V → ag_H → ag_R) (B : ag_K4) (l0 : Option Nat) (l1 : Int32) (h : ag_H) : ag_in 1 call B t167 0 [some (.inr l0), some (.inl l1), none, none, none] [] h = f167 call  l0 l1 h := by
  rfl
set_option maxRecDepth 100000 in
set_option maxHeartbeats 4000000 in
theorem r167 (d : Nat) (l0 : Option Nat) (l1 : Int32) (h : ag_H) : ag_run gT (d + 1) 167 [.inr l0, .inl l1] h = f167 (ag_run gT d)  l0 l1 h := by
  show ag_out 1 (ag_run gT d) t167 4000 0 [some (.inr l0), some (.inl l1), none, none, none] [] h = _
  rw [ag_out_top, i167]
def f168_35 (call : Nat → List ag_V → ag_H → ag_R) (b4 : Option Nat → Int32 → Int32 → Int32 → ag_H → ag_R) (l0 : Option Nat) (l1 : Int32) (l3 : Int32) (s0 : Int32) (h : ag_H) : ag_R :=
  b4 l0 l1 s0 (l3 + ag_lit 1) h
def f168_34 (call : Nat → List ag_V → ag_H → ag_R) (b4 : Option Nat → Int32 → Int32 → Int32 → ag_H → ag_R) (l0 : Option Nat) (l1 : Int32) (l2 : Int32) (l3 : Int32) (h : ag_H) : ag_R :=
  f168_35 call b4 l0 l1 l3 l2 h
def f168_4 (call : Nat → List ag_V → ag_H → ag_R) (b4 : Option Nat → Int32 → Int32 → Int32 → ag_H → ag_R) (l0 : Option Nat) (l1 : Int32) (l2 : Int32) (l3 : Int32) (h : ag_H) : ag_R :=
  if (ag_lit 4) ≤ l3 then
    some (.inl (some (.inl l2)), h)
  else
    ag_gR h l0 11 29 fun x1 =>
    ag_xI h x1 102 l3 fun x2 =>
    if x2 = (ag_lit 0) then
      f168_34 call b4 l0 l1 l2 l3 h
    else
      ag_gR h l0 11 30 fun x3 =>
      ag_xI h x3 100 l3 fun x4 =>
      if x4 = l1 then
        f168_35 call b4 l0 l1 l3 (l2 + (ag_lit 1)) h
      else
        f168_34 call b4 l0 l1 l2 l3 h
/-- NameSpacesModel.users(I)I -/
def f168 (call : Nat → List ag_V → ag_H → ag_R) (b4 : Option Nat → Int32 → Int32 → Int32 → ag_H → ag_R) (l0 : Option Nat) (l1 : Int32) (h : ag_H) : ag_R :=
  f168_4 call b4 l0 l1 (ag_lit 0) (ag_lit 0) h
def g168 (call : Nat → List ag_V → ag_H → ag_R) : Nat → Option Nat → Int32 → Int32 → Int32 → ag_H → ag_R
  | 0 => fun _ _ _ _ _ => none
  | n + 1 => f168_4 call (g168 call n)
set_option maxRecDepth 100000 in
set_option maxHeartbeats 4000000 in
theorem i168_4 (call : Nat → List ag_V → ag_H → ag_R) (B : ag_K4) (l0 : Option Nat) (l1 : Int32) (l2 : Int32) (l3 : Int32) (h : ag_H) : ag_in 1 call B t168 4 [some (.inr l0), some (.inl l1), some (.inl l2), some (.inl l3)] [] h = f168_4 call (fun (l0 : Option Nat) (l1 : Int32) (l2 : Int32) (l3 : Int32) (h : ag_H) => B 4 [some (.inr l0), some (.inl l1), some (.inl l2), some (.inl l3)] [] h) l0 l1 l2 l3 h := by
  rfl
set_option maxRecDepth 100000 in
set_option maxHeartbeats 4000000 in
theorem i168 (call : Nat → List ag_V → ag_H → ag_R) (B : ag_K4) (l0 : Option Nat) (l1 : Int32) (h : ag_H) : ag_in 1 call B t168 0 [some (.inr l0), some (.inl l1), none, none] [] h = f168 call (fun (l0 : Option Nat) (l1 : Int32) (l2 : Int32) (l3 : Int32) (h : ag_H) => B 4 [some (.inr l0), some (.inl l1), some (.inl l2), some (.inl l3)] [] h) l0 l1 h := by
  rfl
set_option maxRecDepth 100000 in
set_option maxHeartbeats 4000000 in
theorem o168 (call : Nat → List ag_V → ag_H → ag_R) : ∀ n : Nat, (fun (l0 : Option Nat) (l1 : Int32) (l2 : Int32) (l3 : Int32) (h : ag_H) => (ag_out 1 call t168 n) 4 [some (.inr l0), some (.inl l1), some (.inl l2), some (.inl l3)] [] h) = g168 call n := by
  intro n
  induction n with
  | zero => rfl
  | succ n ih =>
    funext l0 l1 l2 l3 h
    show ag_in 1 call (ag_out 1 call t168 n) t168 4 [some (.inr l0), some (.inl l1), some (.inl l2), some (.inl l3)] [] h = f168_4 call (g168 call n) l0 l1 l2 l3 h
    rw [i168_4, ih]
set_option maxRecDepth 100000 in
set_option maxHeartbeats 4000000 in
theorem r168 (d : Nat) (l0 : Option Nat) (l1 : Int32) (h : ag_H) : ag_run gT (d + 1) 168 [.inr l0, .inl l1] h = f168 (ag_run gT d) (g168 (ag_run gT d) 3999) l0 l1 h := by
  show ag_out 1 (ag_run gT d) t168 4000 0 [some (.inr l0), some (.inl l1), none, none] [] h = _
  rw [ag_out_top, i168, o168]
def f169_25 (call : Nat → List ag_V → ag_H → ag_R) (b4 : Option Nat → Int32 → Int32 → ag_H → ag_R) (l0 : Option Nat) (l2 : Int32) (s0 : Int32) (h : ag_H) : ag_R :=
  b4 l0 s0 (l2 + ag_lit 1) h
def f169_4 (call : Nat → List ag_V → ag_H → ag_R) (b4 : Option Nat → Int32 → Int32 → ag_H → ag_R) (l0 : Option Nat) (l1 : Int32) (l2 : Int32) (h : ag_H) : ag_R :=
  if (ag_lit 4) ≤ l2 then
    some (.inl (some (.inl l1)), h)
  else
    ag_gR h l0 11 29 fun x1 =>
    ag_xI h x1 102 l2 fun x2 =>
    if x2 = (ag_lit 0) then
      f169_25 call b4 l0 l2 l1 h
    else
      f169_25 call b4 l0 l2 (l1 + (ag_lit 1)) h
/-- NameSpacesModel.processes()I -/
def f169 (call : Nat → List ag_V → ag_H → ag_R) (b4 : Option Nat → Int32 → Int32 → ag_H → ag_R) (l0 : Option Nat) (h : ag_H) : ag_R :=
  f169_4 call b4 l0 (ag_lit 0) (ag_lit 0) h
def g169 (call : Nat → List ag_V → ag_H → ag_R) : Nat → Option Nat → Int32 → Int32 → ag_H → ag_R
  | 0 => fun _ _ _ _ => none
  | n + 1 => f169_4 call (g169 call n)
set_option maxRecDepth 100000 in
set_option maxHeartbeats 4000000 in
theorem i169_4 (call : Nat → List ag_V → ag_H → ag_R) (B : ag_K4) (l0 : Option Nat) (l1 : Int32) (l2 : Int32) (h : ag_H) : ag_in 1 call B t169 4 [some (.inr l0), some (.inl l1), some (.inl l2)] [] h = f169_4 call (fun (l0 : Option Nat) (l1 : Int32) (l2 : Int32) (h : ag_H) => B 4 [some (.inr l0), some (.inl l1), some (.inl l2)] [] h) l0 l1 l2 h := by
  rfl
set_option maxRecDepth 100000 in
set_option maxHeartbeats 4000000 in
theorem i169 (call : Nat → List ag_V → ag_H → ag_R) (B : ag_K4) (l0 : Option Nat) (h : ag_H) : ag_in 1 call B t169 0 [some (.inr l0), none, none] [] h = f169 call (fun (l0 : Option Nat) (l1 : Int32) (l2 : Int32) (h : ag_H) => B 4 [some (.inr l0), some (.inl l1), some (.inl l2)] [] h) l0 h := by
  rfl
set_option maxRecDepth 100000 in
set_option maxHeartbeats 4000000 in
theorem o169 (call : Nat → List ag_V → ag_H → ag_R) : ∀ n : Nat, (fun (l0 : Option Nat) (l1 : Int32) (l2 : Int32) (h : ag_H) => (ag_out 1 call t169 n) 4 [some (.inr l0), some (.inl l1), some (.inl l2)] [] h) = g169 call n := by
  intro n
  induction n with
  | zero => rfl
  | succ n ih =>
    funext l0 l1 l2 h
    show ag_in 1 call (ag_out 1 call t169 n) t169 4 [some (.inr l0), some (.inl l1), some (.inl l2)] [] h = f169_4 call (g169 call n) l0 l1 l2 h
    rw [i169_4, ih]
set_option maxRecDepth 100000 in
set_option maxHeartbeats 4000000 in
theorem r169 (d : Nat) (l0 : Option Nat) (h : ag_H) : ag_run gT (d + 1) 169 [.inr l0] h = f169 (ag_run gT d) (g169 (ag_run gT d) 3999) l0 h := by
  show ag_out 1 (ag_run gT d) t169 4000 0 [some (.inr l0), none, none] [] h = _
  rw [ag_out_top, i169, o169]
def f170_201 (call : Nat → List ag_V → ag_H → ag_R) (b40 : Option Nat → Int32 → Int32 → Int32 → ag_H → ag_R) (b58 : Option Nat → Int32 → Int32 → Int32 → Int32 → ag_H → ag_R) (b132 : Option Nat → Int32 → Int32 → Int32 → Int32 → ag_H → ag_R) (b201 : Option Nat → Int32 → Int32 → Int32 → Int32 → Int32 → Int32 → Int32 → ag_H → ag_R) (l0 : Option Nat) (l3 : Int32) (l4 : Int32) (l5 : Int32) (l6 : Int32) (l7 : Int32) (l8 : Int32) (l9 : Int32) (h : ag_H) : ag_R :=
  ag_gR h l0 11 25 fun x1 =>
  ag_xI h x1 100 l7 fun x2 =>
  if x2 ≤ l9 then
    b132 l0 l3 l4 l5 (l6 + ag_lit 1) h
  else
    ag_gR h l0 11 26 fun x3 =>
    ag_xI h x3 100 (((ag_lit 3) * l7) + l9) fun x4 =>
    ag_gR h l0 11 27 fun x5 =>
    ag_xI h x5 100 (((ag_lit 3) * l7) + l9) fun x6 =>
    ag_at h l0 11 fun a7 _ => ag_bV (call 125 [.inr (some a7), .inl x4, .inl x6, .inl (ag_lit (-1))] h) fun h8 =>
    ag_gR h8 l0 11 26 fun x9 =>
    ag_xI h8 x9 100 (((ag_lit 3) * l7) + l9) fun x10 =>
    ag_gI h8 l0 11 40 fun x11 =>
    ag_gR h8 l0 11 28 fun x12 =>
    ag_xI h8 x12 102 (((ag_lit 3) * l7) + l9) fun x13 =>
    ag_at h8 l0 11 fun a14 _ => ag_bV (call 161 [.inr (some a14), .inl l8, .inl l9, .inl x10, .inl x11, .inl x13] h8) fun h15 =>
    b201 l0 l3 l4 l5 l6 l7 l8 (l9 + ag_lit 1) h15
def f170_132 (call : Nat → List ag_V → ag_H → ag_R) (b40 : Option Nat → Int32 → Int32 → Int32 → ag_H → ag_R) (b58 : Option Nat → Int32 → Int32 → Int32 → Int32 → ag_H → ag_R) (b132 : Option Nat → Int32 → Int32 → Int32 → Int32 → ag_H → ag_R) (b201 : Option Nat → Int32 → Int32 → Int32 → Int32 → Int32 → Int32 → Int32 → ag_H → ag_R) (l0 : Option Nat) (l3 : Int32) (l4 : Int32) (l5 : Int32) (l6 : Int32) (h : ag_H) : ag_R :=
  ag_gR h l0 11 22 fun x1 =>
  ag_xI h x1 100 l5 fun x2 =>
  if x2 ≤ l6 then
    some (.inl (some (.inl l3)), h)
  else
    ag_gR h l0 11 23 fun x3 =>
    ag_gR h l0 11 23 fun x4 =>
    ag_xI h x4 100 (((ag_lit 4) * l5) + l6) fun x5 =>
    ag_xP h x3 100 (((ag_lit 4) * l4) + l6) (.inl x5) fun h6 =>
    ag_gR h6 l0 11 24 fun x7 =>
    ag_gR h6 l0 11 24 fun x8 =>
    ag_xI h6 x8 100 (((ag_lit 4) * l5) + l6) fun x9 =>
    ag_xP h6 x7 100 (((ag_lit 4) * l4) + l6) (.inl x9) fun h10 =>
    ag_gR h10 l0 11 25 fun x11 =>
    ag_xP h10 x11 100 (((ag_lit 4) * l4) + l6) (.inl (ag_lit 0)) fun h12 =>
    f170_201 call b40 b58 b132 b201 l0 l3 l4 l5 l6 (((ag_lit 4) * l5) + l6) (((ag_lit 4) * l4) + l6) (ag_lit 0) h12
def f170_100 (call : Nat → List ag_V → ag_H → ag_R) (b40 : Option Nat → Int32 → Int32 → Int32 → ag_H → ag_R) (b58 : Option Nat → Int32 → Int32 → Int32 → Int32 → ag_H → ag_R) (b132 : Option Nat → Int32 → Int32 → Int32 → Int32 → ag_H → ag_R) (b201 : Option Nat → Int32 → Int32 → Int32 → Int32 → Int32 → Int32 → Int32 → ag_H → ag_R) (l0 : Option Nat) (l1 : Int32) (l2 : Int32) (l3 : Int32) (l4 : Int32) (s0 : Option Nat) (s1 : Int32) (s2 : Int32) (h : ag_H) : ag_R :=
  ag_xP h s0 100 s1 (.inl s2) fun h1 =>
  if l2 = (ag_lit 0) then
    ag_gR h1 l0 11 30 fun x2 =>
    ag_xI h1 x2 100 l1 fun x3 =>
    ag_gR h1 l0 11 22 fun x4 =>
    ag_gR h1 l0 11 22 fun x5 =>
    ag_xI h1 x5 100 x3 fun x6 =>
    ag_xP h1 x4 100 l4 (.inl x6) fun h7 =>
    f170_132 call b40 b58 b132 b201 l0 l3 l4 x3 (ag_lit 0) h7
  else
    some (.inl (some (.inl l3)), h1)
def f170_58 (call : Nat → List ag_V → ag_H → ag_R) (b40 : Option Nat → Int32 → Int32 → Int32 → ag_H → ag_R) (b58 : Option Nat → Int32 → Int32 → Int32 → Int32 → ag_H → ag_R) (b132 : Option Nat → Int32 → Int32 → Int32 → Int32 → ag_H → ag_R) (b201 : Option Nat → Int32 → Int32 → Int32 → Int32 → Int32 → Int32 → Int32 → ag_H → ag_R) (l0 : Option Nat) (l1 : Int32) (l2 : Int32) (l3 : Int32) (l4 : Int32) (h : ag_H) : ag_R :=
  ag_at h l0 11 fun a1 _ => ag_bI (call 168 [.inr (some a1), .inl l4] h) fun x3 h2 =>
  if x3 ≤ (ag_lit 0) then
    ag_gR h2 l0 11 29 fun x4 =>
    ag_isB (ag_lit 1) <| ag_xP h2 x4 102 l3 (.inl (ag_lit 1)) fun h5 =>
    ag_gR h5 l0 11 30 fun x6 =>
    if l2 = (ag_lit 0) then
      f170_100 call b40 b58 b132 b201 l0 l1 l2 l3 l4 x6 l3 l4 h5
    else
      ag_gR h5 l0 11 30 fun x7 =>
      ag_xI h5 x7 100 l1 fun x8 =>
      f170_100 call b40 b58 b132 b201 l0 l1 l2 l3 l4 x6 l3 x8 h5
  else
    b58 l0 l1 l2 l3 (l4 + ag_lit 1) h2
def f170_40 (call : Nat → List ag_V → ag_H → ag_R) (b40 : Option Nat → Int32 → Int32 → Int32 → ag_H → ag_R) (b58 : Option Nat → Int32 → Int32 → Int32 → Int32 → ag_H → ag_R) (b132 : Option Nat → Int32 → Int32 → Int32 → Int32 → ag_H → ag_R) (b201 : Option Nat → Int32 → Int32 → Int32 → Int32 → Int32 → Int32 → Int32 → ag_H → ag_R) (l0 : Option Nat) (l1 : Int32) (l2 : Int32) (l3 : Int32) (h : ag_H) : ag_R :=
  ag_gR h l0 11 29 fun x1 =>
  ag_xI h x1 102 l3 fun x2 =>
  if x2 = (ag_lit 0) then
    f170_58 call b40 b58 b132 b201 l0 l1 l2 l3 (ag_lit 0) h
  else
    b40 l0 l1 l2 (l3 + ag_lit 1) h
def f170_26 (call : Nat → List ag_V → ag_H → ag_R) (b40 : Option Nat → Int32 → Int32 → Int32 → ag_H → ag_R) (b58 : Option Nat → Int32 → Int32 → Int32 → Int32 → ag_H → ag_R) (b132 : Option Nat → Int32 → Int32 → Int32 → Int32 → ag_H → ag_R) (b201 : Option Nat → Int32 → Int32 → Int32 → Int32 → Int32 → Int32 → Int32 → ag_H → ag_R) (l0 : Option Nat) (l1 : Int32) (l2 : Int32) (s0 : Option Nat) (s1 : Int32) (h : ag_H) : ag_R :=
  ag_pF h s0 11 41 (.inl s1) fun h1 =>
  ag_gI h1 l0 11 41 fun x2 =>
  if x2 = (ag_lit 0) then
    f170_40 call b40 b58 b132 b201 l0 l1 l2 (ag_lit 0) h1
  else
    some (.inl (some (.inl (ag_lit 0))), h1)
/-- NameSpacesModel.fork(IZ)I -/
def f170 (call : Nat → List ag_V → ag_H → ag_R) (b40 : Option Nat → Int32 → Int32 → Int32 → ag_H → ag_R) (b58 : Option Nat → Int32 → Int32 → Int32 → Int32 → ag_H → ag_R) (b132 : Option Nat → Int32 → Int32 → Int32 → Int32 → ag_H → ag_R) (b201 : Option Nat → Int32 → Int32 → Int32 → Int32 → Int32 → Int32 → Int32 → ag_H → ag_R) (l0 : Option Nat) (l1 : Int32) (l2 : Int32) (h : ag_H) : ag_R :=
  ag_at h l0 11 fun a1 _ => ag_bI (call 144 [.inr (some a1), .inl l1] h) fun x3 h2 =>
  if x3 = (ag_lit 0) then
    f170_26 call b40 b58 b132 b201 l0 l1 l2 l0 (ag_lit 1) h2
  else
    ag_at h2 l0 11 fun a4 _ => ag_bI (call 169 [.inr (some a4)] h2) fun x6 h5 =>
    if x6 = (ag_lit 4) then
      f170_26 call b40 b58 b132 b201 l0 l1 l2 l0 (ag_lit 2) h5
    else
      f170_26 call b40 b58 b132 b201 l0 l1 l2 l0 (ag_lit 0) h5
def g170 (call : Nat → List ag_V → ag_H → ag_R) : Nat → (Option Nat → Int32 → Int32 → Int32 → ag_H → ag_R) × (Option Nat → Int32 → Int32 → Int32 → Int32 → ag_H → ag_R) × (Option Nat → Int32 → Int32 → Int32 → Int32 → ag_H → ag_R) × (Option Nat → Int32 → Int32 → Int32 → Int32 → Int32 → Int32 → Int32 → ag_H → ag_R)
  | 0 => (fun _ _ _ _ _ => none, fun _ _ _ _ _ _ => none, fun _ _ _ _ _ _ => none, fun _ _ _ _ _ _ _ _ _ => none)
  | n + 1 => (f170_40 call (g170 call n).1 (g170 call n).2.1 (g170 call n).2.2.1 (g170 call n).2.2.2, f170_58 call (g170 call n).1 (g170 call n).2.1 (g170 call n).2.2.1 (g170 call n).2.2.2, f170_132 call (g170 call n).1 (g170 call n).2.1 (g170 call n).2.2.1 (g170 call n).2.2.2, f170_201 call (g170 call n).1 (g170 call n).2.1 (g170 call n).2.2.1 (g170 call n).2.2.2)
set_option maxRecDepth 100000 in
set_option maxHeartbeats 4000000 in
theorem i170_40 (call : Nat → List ag_V → ag_H → ag_R) (B : ag_K4) (l0 : Option Nat) (l1 : Int32) (l2 : Int32) (l3 : Int32) (h : ag_H) : ag_in 1 call B t170 40 [some (.inr l0), some (.inl l1), some (.inl l2), some (.inl l3), none, none, none, none, none, none] [] h = f170_40 call (fun (l0 : Option Nat) (l1 : Int32) (l2 : Int32) (l3 : Int32) (h : ag_H) => B 40 [some (.inr l0), some (.inl l1), some (.inl l2), some (.inl l3), none, none, none, none, none, none] [] h) (fun (l0 : Option Nat) (l1 : Int32) (l2 : Int32) (l3 : Int32) (l4 : Int32) (h : ag_H) => B 58 [some (.inr l0), some (.inl l1), some (.inl l2), some (.inl l3), some (.inl l4), none, none, none, none, none] [] h) (fun (l0 : Option Nat) (l3 : Int32) (l4 : Int32) (l5 : Int32) (l6 : Int32) (h : ag_H) => B 132 [some (.inr l0), none, none, some (.inl l3), some (.inl l4), some (.inl l5), some (.inl l6), none, none, none] [] h) (fun (l0 : Option Nat) (l3 : Int32) (l4 : Int32) (l5 : Int32) (l6 : Int32) (l7 : Int32) (l8 : Int32) (l9 : Int32) (h : ag_H) => B 201 [some (.inr l0), none, none, some (.inl l3), some (.inl l4), some (.inl l5), some (.inl l6), some (.inl l7), some (.inl l8), some (.inl l9)] [] h) l0 l1 l2 l3 h := by
  rfl
set_option maxRecDepth 100000 in
set_option maxHeartbeats 4000000 in
theorem i170_58 (call : Nat → List ag_V → ag_H → ag_R) (B : ag_K4) (l0 : Option Nat) (l1 : Int32) (l2 : Int32) (l3 : Int32) (l4 : Int32) (h : ag_H) : ag_in 1 call B t170 58 [some (.inr l0), some (.inl l1), some (.inl l2), some (.inl l3), some (.inl l4), none, none, none, none, none] [] h = f170_58 call (fun (l0 : Option Nat) (l1 : Int32) (l2 : Int32) (l3 : Int32) (h : ag_H) => B 40 [some (.inr l0), some (.inl l1), some (.inl l2), some (.inl l3), none, none, none, none, none, none] [] h) (fun (l0 : Option Nat) (l1 : Int32) (l2 : Int32) (l3 : Int32) (l4 : Int32) (h : ag_H) => B 58 [some (.inr l0), some (.inl l1), some (.inl l2), some (.inl l3), some (.inl l4), none, none, none, none, none] [] h) (fun (l0 : Option Nat) (l3 : Int32) (l4 : Int32) (l5 : Int32) (l6 : Int32) (h : ag_H) => B 132 [some (.inr l0), none, none, some (.inl l3), some (.inl l4), some (.inl l5), some (.inl l6), none, none, none] [] h) (fun (l0 : Option Nat) (l3 : Int32) (l4 : Int32) (l5 : Int32) (l6 : Int32) (l7 : Int32) (l8 : Int32) (l9 : Int32) (h : ag_H) => B 201 [some (.inr l0), none, none, some (.inl l3), some (.inl l4), some (.inl l5), some (.inl l6), some (.inl l7), some (.inl l8), some (.inl l9)] [] h) l0 l1 l2 l3 l4 h := by
  rfl
set_option maxRecDepth 100000 in
set_option maxHeartbeats 4000000 in
theorem i170_132 (call : Nat → List ag_V → ag_H → ag_R) (B : ag_K4) (l0 : Option Nat) (l3 : Int32) (l4 : Int32) (l5 : Int32) (l6 : Int32) (h : ag_H) : ag_in 1 call B t170 132 [some (.inr l0), none, none, some (.inl l3), some (.inl l4), some (.inl l5), some (.inl l6), none, none, none] [] h = f170_132 call (fun (l0 : Option Nat) (l1 : Int32) (l2 : Int32) (l3 : Int32) (h : ag_H) => B 40 [some (.inr l0), some (.inl l1), some (.inl l2), some (.inl l3), none, none, none, none, none, none] [] h) (fun (l0 : Option Nat) (l1 : Int32) (l2 : Int32) (l3 : Int32) (l4 : Int32) (h : ag_H) => B 58 [some (.inr l0), some (.inl l1), some (.inl l2), some (.inl l3), some (.inl l4), none, none, none, none, none] [] h) (fun (l0 : Option Nat) (l3 : Int32) (l4 : Int32) (l5 : Int32) (l6 : Int32) (h : ag_H) => B 132 [some (.inr l0), none, none, some (.inl l3), some (.inl l4), some (.inl l5), some (.inl l6), none, none, none] [] h) (fun (l0 : Option Nat) (l3 : Int32) (l4 : Int32) (l5 : Int32) (l6 : Int32) (l7 : Int32) (l8 : Int32) (l9 : Int32) (h : ag_H) => B 201 [some (.inr l0), none, none, some (.inl l3), some (.inl l4), some (.inl l5), some (.inl l6), some (.inl l7), some (.inl l8), some (.inl l9)] [] h) l0 l3 l4 l5 l6 h := by
  rfl
set_option maxRecDepth 100000 in
set_option maxHeartbeats 4000000 in
theorem i170_201 (call : Nat → List ag_V → ag_H → ag_R) (B : ag_K4) (l0 : Option Nat) (l3 : Int32) (l4 : Int32) (l5 : Int32) (l6 : Int32) (l7 : Int32) (l8 : Int32) (l9 : Int32) (h : ag_H) : ag_in 1 call B t170 201 [some (.inr l0), none, none, some (.inl l3), some (.inl l4), some (.inl l5), some (.inl l6), some (.inl l7), some (.inl l8), some (.inl l9)] [] h = f170_201 call (fun (l0 : Option Nat) (l1 : Int32) (l2 : Int32) (l3 : Int32) (h : ag_H) => B 40 [some (.inr l0), some (.inl l1), some (.inl l2), some (.inl l3), none, none, none, none, none, none] [] h) (fun (l0 : Option Nat) (l1 : Int32) (l2 : Int32) (l3 : Int32) (l4 : Int32) (h : ag_H) => B 58 [some (.inr l0), some (.inl l1), some (.inl l2), some (.inl l3), some (.inl l4), none, none, none, none, none] [] h) (fun (l0 : Option Nat) (l3 : Int32) (l4 : Int32) (l5 : Int32) (l6 : Int32) (h : ag_H) => B 132 [some (.inr l0), none, none, some (.inl l3), some (.inl l4), some (.inl l5), some (.inl l6), none, none, none] [] h) (fun (l0 : Option Nat) (l3 : Int32) (l4 : Int32) (l5 : Int32) (l6 : Int32) (l7 : Int32) (l8 : Int32) (l9 : Int32) (h : ag_H) => B 201 [some (.inr l0), none, none, some (.inl l3), some (.inl l4), some (.inl l5), some (.inl l6), some (.inl l7), some (.inl l8), some (.inl l9)] [] h) l0 l3 l4 l5 l6 l7 l8 l9 h := by
  rfl
set_option maxRecDepth 100000 in
set_option maxHeartbeats 4000000 in
theorem i170 (call : Nat → List ag_V → ag_H → ag_R) (B : ag_K4) (l0 : Option Nat) (l1 : Int32) (l2 : Int32) (h : ag_H) : ag_in 1 call B t170 0 [some (.inr l0), some (.inl l1), some (.inl l2), none, none, none, none, none, none, none] [] h = f170 call (fun (l0 : Option Nat) (l1 : Int32) (l2 : Int32) (l3 : Int32) (h : ag_H) => B 40 [some (.inr l0), some (.inl l1), some (.inl l2), some (.inl l3), none, none, none, none, none, none] [] h) (fun (l0 : Option Nat) (l1 : Int32) (l2 : Int32) (l3 : Int32) (l4 : Int32) (h : ag_H) => B 58 [some (.inr l0), some (.inl l1), some (.inl l2), some (.inl l3), some (.inl l4), none, none, none, none, none] [] h) (fun (l0 : Option Nat) (l3 : Int32) (l4 : Int32) (l5 : Int32) (l6 : Int32) (h : ag_H) => B 132 [some (.inr l0), none, none, some (.inl l3), some (.inl l4), some (.inl l5), some (.inl l6), none, none, none] [] h) (fun (l0 : Option Nat) (l3 : Int32) (l4 : Int32) (l5 : Int32) (l6 : Int32) (l7 : Int32) (l8 : Int32) (l9 : Int32) (h : ag_H) => B 201 [some (.inr l0), none, none, some (.inl l3), some (.inl l4), some (.inl l5), some (.inl l6), some (.inl l7), some (.inl l8), some (.inl l9)] [] h) l0 l1 l2 h := by
  rfl
set_option maxRecDepth 100000 in
set_option maxHeartbeats 4000000 in
theorem o170 (call : Nat → List ag_V → ag_H → ag_R) : ∀ n : Nat, (fun (l0 : Option Nat) (l1 : Int32) (l2 : Int32) (l3 : Int32) (h : ag_H) => (ag_out 1 call t170 n) 40 [some (.inr l0), some (.inl l1), some (.inl l2), some (.inl l3), none, none, none, none, none, none] [] h) = (g170 call n).1 ∧ (fun (l0 : Option Nat) (l1 : Int32) (l2 : Int32) (l3 : Int32) (l4 : Int32) (h : ag_H) => (ag_out 1 call t170 n) 58 [some (.inr l0), some (.inl l1), some (.inl l2), some (.inl l3), some (.inl l4), none, none, none, none, none] [] h) = (g170 call n).2.1 ∧ (fun (l0 : Option Nat) (l3 : Int32) (l4 : Int32) (l5 : Int32) (l6 : Int32) (h : ag_H) => (ag_out 1 call t170 n) 132 [some (.inr l0), none, none, some (.inl l3), some (.inl l4), some (.inl l5), some (.inl l6), none, none, none] [] h) = (g170 call n).2.2.1 ∧ (fun (l0 : Option Nat) (l3 : Int32) (l4 : Int32) (l5 : Int32) (l6 : Int32) (l7 : Int32) (l8 : Int32) (l9 : Int32) (h : ag_H) => (ag_out 1 call t170 n) 201 [some (.inr l0), none, none, some (.inl l3), some (.inl l4), some (.inl l5), some (.inl l6), some (.inl l7), some (.inl l8), some (.inl l9)] [] h) = (g170 call n).2.2.2 := by
  intro n
  induction n with
  | zero => exact ⟨rfl, rfl, rfl, rfl⟩
  | succ n ih =>
    obtain ⟨e0, e1, e2, e3⟩ := ih
    refine ⟨?_, ?_, ?_, ?_⟩
    · funext l0 l1 l2 l3 h
      show ag_in 1 call (ag_out 1 call t170 n) t170 40 [some (.inr l0), some (.inl l1), some (.inl l2), some (.inl l3), none, none, none, none, none, none] [] h = f170_40 call (g170 call n).1 (g170 call n).2.1 (g170 call n).2.2.1 (g170 call n).2.2.2 l0 l1 l2 l3 h
      rw [i170_40, e0, e1, e2, e3]
    · funext l0 l1 l2 l3 l4 h
      show ag_in 1 call (ag_out 1 call t170 n) t170 58 [some (.inr l0), some (.inl l1), some (.inl l2), some (.inl l3), some (.inl l4), none, none, none, none, none] [] h = f170_58 call (g170 call n).1 (g170 call n).2.1 (g170 call n).2.2.1 (g170 call n).2.2.2 l0 l1 l2 l3 l4 h
      rw [i170_58, e0, e1, e2, e3]
    · funext l0 l3 l4 l5 l6 h
      show ag_in 1 call (ag_out 1 call t170 n) t170 132 [some (.inr l0), none, none, some (.inl l3), some (.inl l4), some (.inl l5), some (.inl l6), none, none, none] [] h = f170_132 call (g170 call n).1 (g170 call n).2.1 (g170 call n).2.2.1 (g170 call n).2.2.2 l0 l3 l4 l5 l6 h
      rw [i170_132, e0, e1, e2, e3]
    · funext l0 l3 l4 l5 l6 l7 l8 l9 h
      show ag_in 1 call (ag_out 1 call t170 n) t170 201 [some (.inr l0), none, none, some (.inl l3), some (.inl l4), some (.inl l5), some (.inl l6), some (.inl l7), some (.inl l8), some (.inl l9)] [] h = f170_201 call (g170 call n).1 (g170 call n).2.1 (g170 call n).2.2.1 (g170 call n).2.2.2 l0 l3 l4 l5 l6 l7 l8 l9 h
      rw [i170_201, e0, e1, e2, e3]
set_option maxRecDepth 100000 in
set_option maxHeartbeats 4000000 in
theorem r170 (d : Nat) (l0 : Option Nat) (l1 : Int32) (l2 : Int32) (h : ag_H) : ag_run gT (d + 1) 170 [.inr l0, .inl l1, .inl l2] h = f170 (ag_run gT d) (g170 (ag_run gT d) 3999).1 (g170 (ag_run gT d) 3999).2.1 (g170 (ag_run gT d) 3999).2.2.1 (g170 (ag_run gT d) 3999).2.2.2 l0 l1 l2 h := by
  show ag_out 1 (ag_run gT d) t170 4000 0 [some (.inr l0), some (.inl l1), some (.inl l2), none, none, none, none, none, none, none] [] h = _
  rw [ag_out_top, i170, (o170 (ag_run gT d) 3999).1, (o170 (ag_run gT d) 3999).2.1, (o170 (ag_run gT d) 3999).2.2.1, (o170 (ag_run gT d) 3999).2.2.2]
def f171_115 (call : Nat → List ag_V → ag_H → ag_R) (b32 : Option Nat → Int32 → Int32 → ag_H → ag_R) (b68 : Option Nat → Int32 → Int32 → ag_H → ag_R) (l0 : Option Nat) (l1 : Int32) (h : ag_H) : ag_R :=
  ag_gR h l0 11 29 fun x1 =>
  ag_isB (ag_lit 0) <| ag_xP h x1 102 l1 (.inl (ag_lit 0)) fun h2 =>
  ag_at h2 l0 11 fun a3 _ => ag_bI (call 169 [.inr (some a3)] h2) fun x5 h4 =>
  some (.inl (some (.inl x5)), h4)
def f171_68 (call : Nat → List ag_V → ag_H → ag_R) (b32 : Option Nat → Int32 → Int32 → ag_H → ag_R) (b68 : Option Nat → Int32 → Int32 → ag_H → ag_R) (l0 : Option Nat) (l1 : Int32) (l2 : Int32) (h : ag_H) : ag_R :=
  ag_gR h l0 11 22 fun x1 =>
  ag_gR h l0 11 30 fun x2 =>
  ag_xI h x2 100 l1 fun x3 =>
  ag_xI h x1 100 x3 fun x4 =>
  if x4 ≤ l2 then
    ag_gR h l0 11 22 fun x5 =>
    ag_gR h l0 11 30 fun x6 =>
    ag_xI h x6 100 l1 fun x7 =>
    ag_xP h x5 100 x7 (.inl (ag_lit 0)) fun h8 =>
    f171_115 call b32 b68 l0 l1 h8
  else
    ag_gR h l0 11 30 fun x9 =>
    ag_xI h x9 100 l1 fun x10 =>
    ag_at h l0 11 fun a11 _ => ag_bV (call 162 [.inr (some a11), .inl (((ag_lit 4) * x10) + l2)] h) fun h12 =>
    b68 l0 l1 (l2 + ag_lit 1) h12
def f171_32 (call : Nat → List ag_V → ag_H → ag_R) (b32 : Option Nat → Int32 → Int32 → ag_H → ag_R) (b68 : Option Nat → Int32 → Int32 → ag_H → ag_R) (l0 : Option Nat) (l1 : Int32) (l2 : Int32) (h : ag_H) : ag_R :=
  if (ag_lit 5) ≤ l2 then
    ag_gR h l0 11 30 fun x1 =>
    ag_xI h x1 100 l1 fun x2 =>
    ag_at h l0 11 fun a3 _ => ag_bI (call 168 [.inr (some a3), .inl x2] h) fun x5 h4 =>
    if x5 = (ag_lit 1) then
      f171_68 call b32 b68 l0 l1 (ag_lit 0) h4
    else
      f171_115 call b32 b68 l0 l1 h4
  else
    ag_at h l0 11 fun a6 _ => ag_bV (call 156 [.inr (some a6), .inl (((ag_lit 5) * l1) + l2)] h) fun h7 =>
    b32 l0 l1 (l2 + ag_lit 1) h7
def f171_18 (call : Nat → List ag_V → ag_H → ag_R) (b32 : Option Nat → Int32 → Int32 → ag_H → ag_R) (b68 : Option Nat → Int32 → Int32 → ag_H → ag_R) (l0 : Option Nat) (l1 : Int32) (s0 : Option Nat) (s1 : Int32) (h : ag_H) : ag_R :=
  ag_pF h s0 11 41 (.inl s1) fun h1 =>
  ag_gI h1 l0 11 41 fun x2 =>
  if x2 = (ag_lit 0) then
    f171_32 call b32 b68 l0 l1 (ag_lit 0) h1
  else
    some (.inl (some (.inl (ag_lit 0))), h1)
def f171_13 (call : Nat → List ag_V → ag_H → ag_R) (b32 : Option Nat → Int32 → Int32 → ag_H → ag_R) (b68 : Option Nat → Int32 → Int32 → ag_H → ag_R) (l0 : Option Nat) (l1 : Int32) (s0 : Option Nat) (h : ag_H) : ag_R :=
  f171_18 call b32 b68 l0 l1 s0 (ag_lit 1) h
/-- NameSpacesModel.exit(I)I -/
def f171 (call : Nat → List ag_V → ag_H → ag_R) (b32 : Option Nat → Int32 → Int32 → ag_H → ag_R) (b68 : Option Nat → Int32 → Int32 → ag_H → ag_R) (l0 : Option Nat) (l1 : Int32) (h : ag_H) : ag_R :=
  ag_at h l0 11 fun a1 _ => ag_bI (call 144 [.inr (some a1), .inl l1] h) fun x3 h2 =>
  if x3 = (ag_lit 0) then
    f171_13 call b32 b68 l0 l1 l0 h2
  else
    if l1 = (ag_lit 0) then
      f171_13 call b32 b68 l0 l1 l0 h2
    else
      f171_18 call b32 b68 l0 l1 l0 (ag_lit 0) h2
def g171 (call : Nat → List ag_V → ag_H → ag_R) : Nat → (Option Nat → Int32 → Int32 → ag_H → ag_R) × (Option Nat → Int32 → Int32 → ag_H → ag_R)
  | 0 => (fun _ _ _ _ => none, fun _ _ _ _ => none)
  | n + 1 => (f171_32 call (g171 call n).1 (g171 call n).2, f171_68 call (g171 call n).1 (g171 call n).2)
set_option maxRecDepth 100000 in
set_option maxHeartbeats 4000000 in
theorem i171_32 (call : Nat → List ag_V → ag_H → ag_R) (B : ag_K4) (l0 : Option Nat) (l1 : Int32) (l2 : Int32) (h : ag_H) : ag_in 1 call B t171 32 [some (.inr l0), some (.inl l1), some (.inl l2)] [] h = f171_32 call (fun (l0 : Option Nat) (l1 : Int32) (l2 : Int32) (h : ag_H) => B 32 [some (.inr l0), some (.inl l1), some (.inl l2)] [] h) (fun (l0 : Option Nat) (l1 : Int32) (l2 : Int32) (h : ag_H) => B 68 [some (.inr l0), some (.inl l1), some (.inl l2)] [] h) l0 l1 l2 h := by
  rfl
set_option maxRecDepth 100000 in
set_option maxHeartbeats 4000000 in
theorem i171_68 (call : Nat → List ag_V → ag_H → ag_R) (B : ag_K4) (l0 : Option Nat) (l1 : Int32) (l2 : Int32) (h : ag_H) : ag_in 1 call B t171 68 [some (.inr l0), some (.inl l1), some (.inl l2)] [] h = f171_68 call (fun (l0 : Option Nat) (l1 : Int32) (l2 : Int32) (h : ag_H) => B 32 [some (.inr l0), some (.inl l1), some (.inl l2)] [] h) (fun (l0 : Option Nat) (l1 : Int32) (l2 : Int32) (h : ag_H) => B 68 [some (.inr l0), some (.inl l1), some (.inl l2)] [] h) l0 l1 l2 h := by
  rfl
set_option maxRecDepth 100000 in
set_option maxHeartbeats 4000000 in
theorem i171 (call : Nat → List ag_V → ag_H → ag_R) (B : ag_K4) (l0 : Option Nat) (l1 : Int32) (h : ag_H) : ag_in 1 call B t171 0 [some (.inr l0), some (.inl l1), none] [] h = f171 call (fun (l0 : Option Nat) (l1 : Int32) (l2 : Int32) (h : ag_H) => B 32 [some (.inr l0), some (.inl l1), some (.inl l2)] [] h) (fun (l0 : Option Nat) (l1 : Int32) (l2 : Int32) (h : ag_H) => B 68 [some (.inr l0), some (.inl l1), some (.inl l2)] [] h) l0 l1 h := by
  rfl
set_option maxRecDepth 100000 in
set_option maxHeartbeats 4000000 in
theorem o171 (call : Nat → List ag_V → ag_H → ag_R) : ∀ n : Nat, (fun (l0 : Option Nat) (l1 : Int32) (l2 : Int32) (h : ag_H) => (ag_out 1 call t171 n) 32 [some (.inr l0), some (.inl l1), some (.inl l2)] [] h) = (g171 call n).1 ∧ (fun (l0 : Option Nat) (l1 : Int32) (l2 : Int32) (h : ag_H) => (ag_out 1 call t171 n) 68 [some (.inr l0), some (.inl l1), some (.inl l2)] [] h) = (g171 call n).2 := by
  intro n
  induction n with
  | zero => exact ⟨rfl, rfl⟩
  | succ n ih =>
    obtain ⟨e0, e1⟩ := ih
    refine ⟨?_, ?_⟩
    · funext l0 l1 l2 h
      show ag_in 1 call (ag_out 1 call t171 n) t171 32 [some (.inr l0), some (.inl l1), some (.inl l2)] [] h = f171_32 call (g171 call n).1 (g171 call n).2 l0 l1 l2 h
      rw [i171_32, e0, e1]
    · funext l0 l1 l2 h
      show ag_in 1 call (ag_out 1 call t171 n) t171 68 [some (.inr l0), some (.inl l1), some (.inl l2)] [] h = f171_68 call (g171 call n).1 (g171 call n).2 l0 l1 l2 h
      rw [i171_68, e0, e1]
set_option maxRecDepth 100000 in
set_option maxHeartbeats 4000000 in
theorem r171 (d : Nat) (l0 : Option Nat) (l1 : Int32) (h : ag_H) : ag_run gT (d + 1) 171 [.inr l0, .inl l1] h = f171 (ag_run gT d) (g171 (ag_run gT d) 3999).1 (g171 (ag_run gT d) 3999).2 l0 l1 h := by
  show ag_out 1 (ag_run gT d) t171 4000 0 [some (.inr l0), some (.inl l1), none] [] h = _
  rw [ag_out_top, i171, (o171 (ag_run gT d) 3999).1, (o171 (ag_run gT d) 3999).2]
def f172_82 (call : Nat → List ag_V → ag_H → ag_R)  (s0 : Int32) (h : ag_H) : ag_R :=
  some (.inl (some (.inl s0)), h)
def f172_59 (call : Nat → List ag_V → ag_H → ag_R)   (h : ag_H) : ag_R :=
  f172_82 call (ag_lit (-1)) h
def f172_29 (call : Nat → List ag_V → ag_H → ag_R)  (l0 : Option Nat) (l1 : Int32) (l2 : Int32) (s0 : Int32) (h : ag_H) : ag_R :=
  ag_bI (call 114 [.inl l1, .inl (ag_lit 0), .inl (ag_lit 1)] h) fun x2 h1 =>
  if x2 = (ag_lit 0) then
    if l2 = (ag_lit (-1)) then
      f172_82 call s0 h1
    else
      if l2 < (ag_lit 0) then
        f172_59 call h1
      else
        if l2 < s0 then
          if l1 = (ag_lit 0) then
            ag_gR h1 l0 11 16 fun x5 =>
            ag_xI h1 x5 100 l2 fun x6 =>
            f172_82 call x6 h1
          else
            ag_gR h1 l0 11 18 fun x3 =>
            ag_xI h1 x3 100 l2 fun x4 =>
            f172_82 call x4 h1
        else
          f172_59 call h1
  else
    some (.inl (some (.inl (ag_lit (-1)))), h1)
/-- NameSpacesModel.wire(II)I -/
def f172 (call : Nat → List ag_V → ag_H → ag_R)  (l0 : Option Nat) (l1 : Int32) (l2 : Int32) (h : ag_H) : ag_R :=
  ag_pF h l0 11 41 (.inl (ag_lit 0)) fun h1 =>
  if l1 = (ag_lit 0) then
    ag_gI h1 l0 11 17 fun x3 =>
    f172_29 call l0 l1 l2 x3 h1
  else
    if l1 = (ag_lit 1) then
      ag_gI h1 l0 11 19 fun x2 =>
      f172_29 call l0 l1 l2 x2 h1
    else
      f172_29 call l0 l1 l2 (ag_lit 0) h1
set_option maxRecDepth 100000 in
set_option maxHeartbeats 4000000 in
theorem i172 (call : Nat → List ag_V → ag_H → ag_R) (B : ag_K4) (l0 : Option Nat) (l1 : Int32) (l2 : Int32) (h : ag_H) : ag_in 1 call B t172 0 [some (.inr l0), some (.inl l1), some (.inl l2), none] [] h = f172 call  l0 l1 l2 h := by
  rfl
set_option maxRecDepth 100000 in
set_option maxHeartbeats 4000000 in
theorem r172 (d : Nat) (l0 : Option Nat) (l1 : Int32) (l2 : Int32) (h : ag_H) : ag_run gT (d + 1) 172 [.inr l0, .inl l1, .inl l2] h = f172 (ag_run gT d)  l0 l1 l2 h := by
  show ag_out 1 (ag_run gT d) t172 4000 0 [some (.inr l0), some (.inl l1), some (.inl l2), none] [] h = _
  rw [ag_out_top, i172]
def f173_109 (call : Nat → List ag_V → ag_H → ag_R) (b21 : Option Nat → Int32 → Int32 → Int32 → Int32 → ag_H → ag_R) (s0 : Int32) (h : ag_H) : ag_R :=
  some (.inl (some (.inl s0)), h)
def f173_52 (call : Nat → List ag_V → ag_H → ag_R) (b21 : Option Nat → Int32 → Int32 → Int32 → Int32 → ag_H → ag_R) (l0 : Option Nat) (l1 : Int32) (l2 : Int32) (l4 : Int32) (s0 : Int32) (h : ag_H) : ag_R :=
  b21 l0 l1 l2 s0 (l4 + ag_lit 1) h
def f173_21 (call : Nat → List ag_V → ag_H → ag_R) (b21 : Option Nat → Int32 → Int32 → Int32 → Int32 → ag_H → ag_R) (l0 : Option Nat) (l1 : Int32) (l2 : Int32) (l3 : Int32) (l4 : Int32) (h : ag_H) : ag_R :=
  if (ag_lit16 200) ≤ l4 then
    if l2 = (ag_lit 0) then
      ag_gR h l0 11 15 fun x6 =>
      ag_xI h x6 100 l1 fun x7 =>
      f173_109 call b21 x7 h
    else
      if l2 = (ag_lit 1) then
        f173_109 call b21 l3 h
      else
        if l2 = (ag_lit 2) then
          ag_at h l0 11 fun a3 _ => ag_bI (call 127 [.inr (some a3), .inl l1] h) fun x5 h4 =>
          f173_109 call b21 x5 h4
        else
          if l2 = (ag_lit 3) then
            ag_gR h l0 11 6 fun x1 =>
            ag_xI h x1 100 l1 fun x2 =>
            f173_109 call b21 x2 h
          else
            f173_109 call b21 (ag_lit (-1)) h
  else
    ag_gR h l0 11 14 fun x8 =>
    ag_xI h x8 100 (((ag_lit16 200) * l1) + l4) fun x9 =>
    if x9 = (ag_lit 0) then
      f173_52 call b21 l0 l1 l2 l4 l3 h
    else
      f173_52 call b21 l0 l1 l2 l4 (l3 + (ag_lit 1)) h
/-- NameSpacesModel.server(II)I -/
def f173 (call : Nat → List ag_V → ag_H → ag_R) (b21 : Option Nat → Int32 → Int32 → Int32 → Int32 → ag_H → ag_R) (l0 : Option Nat) (l1 : Int32) (l2 : Int32) (h : ag_H) : ag_R :=
  ag_pF h l0 11 41 (.inl (ag_lit 0)) fun h1 =>
  ag_bI (call 114 [.inl l1, .inl (ag_lit 0), .inl (ag_lit 1)] h1) fun x3 h2 =>
  if x3 = (ag_lit 0) then
    f173_21 call b21 l0 l1 l2 (ag_lit 0) (ag_lit 0) h2
  else
    some (.inl (some (.inl (ag_lit (-1)))), h2)
def g173 (call : Nat → List ag_V → ag_H → ag_R) : Nat → Option Nat → Int32 → Int32 → Int32 → Int32 → ag_H → ag_R
  | 0 => fun _ _ _ _ _ _ => none
  | n + 1 => f173_21 call (g173 call n)
set_option maxRecDepth 100000 in
set_option maxHeartbeats 4000000 in
theorem i173_21 (call : Nat → List ag_V → ag_H → ag_R) (B : ag_K4) (l0 : Option Nat) (l1 : Int32) (l2 : Int32) (l3 : Int32) (l4 : Int32) (h : ag_H) : ag_in 1 call B t173 21 [some (.inr l0), some (.inl l1), some (.inl l2), some (.inl l3), some (.inl l4)] [] h = f173_21 call (fun (l0 : Option Nat) (l1 : Int32) (l2 : Int32) (l3 : Int32) (l4 : Int32) (h : ag_H) => B 21 [some (.inr l0), some (.inl l1), some (.inl l2), some (.inl l3), some (.inl l4)] [] h) l0 l1 l2 l3 l4 h := by
  rfl
set_option maxRecDepth 100000 in
set_option maxHeartbeats 4000000 in
theorem i173 (call : Nat → List ag_V → ag_H → ag_R) (B : ag_K4) (l0 : Option Nat) (l1 : Int32) (l2 : Int32) (h : ag_H) : ag_in 1 call B t173 0 [some (.inr l0), some (.inl l1), some (.inl l2), none, none] [] h = f173 call (fun (l0 : Option Nat) (l1 : Int32) (l2 : Int32) (l3 : Int32) (l4 : Int32) (h : ag_H) => B 21 [some (.inr l0), some (.inl l1), some (.inl l2), some (.inl l3), some (.inl l4)] [] h) l0 l1 l2 h := by
  rfl
set_option maxRecDepth 100000 in
set_option maxHeartbeats 4000000 in
theorem o173 (call : Nat → List ag_V → ag_H → ag_R) : ∀ n : Nat, (fun (l0 : Option Nat) (l1 : Int32) (l2 : Int32) (l3 : Int32) (l4 : Int32) (h : ag_H) => (ag_out 1 call t173 n) 21 [some (.inr l0), some (.inl l1), some (.inl l2), some (.inl l3), some (.inl l4)] [] h) = g173 call n := by
  intro n
  induction n with
  | zero => rfl
  | succ n ih =>
    funext l0 l1 l2 l3 l4 h
    show ag_in 1 call (ag_out 1 call t173 n) t173 21 [some (.inr l0), some (.inl l1), some (.inl l2), some (.inl l3), some (.inl l4)] [] h = f173_21 call (g173 call n) l0 l1 l2 l3 l4 h
    rw [i173_21, ih]
set_option maxRecDepth 100000 in
set_option maxHeartbeats 4000000 in
theorem r173 (d : Nat) (l0 : Option Nat) (l1 : Int32) (l2 : Int32) (h : ag_H) : ag_run gT (d + 1) 173 [.inr l0, .inl l1, .inl l2] h = f173 (ag_run gT d) (g173 (ag_run gT d) 3999) l0 l1 l2 h := by
  show ag_out 1 (ag_run gT d) t173 4000 0 [some (.inr l0), some (.inl l1), some (.inl l2), none, none] [] h = _
  rw [ag_out_top, i173, o173]
def f174_123 (call : Nat → List ag_V → ag_H → ag_R) (b41 : Option Nat → Int32 → Int32 → Int32 → Int32 → ag_H → ag_R) (s0 : Int32) (h : ag_H) : ag_R :=
  some (.inl (some (.inl s0)), h)
def f174_41 (call : Nat → List ag_V → ag_H → ag_R) (b41 : Option Nat → Int32 → Int32 → Int32 → Int32 → ag_H → ag_R) (l0 : Option Nat) (l1 : Int32) (l2 : Int32) (l3 : Int32) (l4 : Int32) (h : ag_H) : ag_R :=
  ag_gR h l0 11 22 fun x1 =>
  ag_gR h l0 11 30 fun x2 =>
  ag_xI h x2 100 l1 fun x3 =>
  ag_xI h x1 100 x3 fun x4 =>
  if x4 ≤ l4 then
    if l2 = (ag_lit 0) then
      f174_123 call b41 (ag_lit 1) h
    else
      if l2 = (ag_lit 1) then
        ag_at h l0 11 fun a9 _ => ag_bI (call 146 [.inr (some a9), .inl l1] h) fun x11 h10 =>
        f174_123 call b41 x11 h10
      else
        if l2 = (ag_lit 2) then
          ag_gR h l0 11 22 fun x5 =>
          ag_gR h l0 11 30 fun x6 =>
          ag_xI h x6 100 l1 fun x7 =>
          ag_xI h x5 100 x7 fun x8 =>
          f174_123 call b41 x8 h
        else
          f174_123 call b41 l3 h
  else
    ag_gR h l0 11 25 fun x12 =>
    ag_gR h l0 11 30 fun x13 =>
    ag_xI h x13 100 l1 fun x14 =>
    ag_xI h x12 100 (((ag_lit 4) * x14) + l4) fun x15 =>
    b41 l0 l1 l2 (l3 + x15) (l4 + ag_lit 1) h
def f174_23 (call : Nat → List ag_V → ag_H → ag_R) (b41 : Option Nat → Int32 → Int32 → Int32 → Int32 → ag_H → ag_R)  (h : ag_H) : ag_R :=
  some (.inl (some (.inl (ag_lit (-1)))), h)
/-- NameSpacesModel.process(II)I -/
def f174 (call : Nat → List ag_V → ag_H → ag_R) (b41 : Option Nat → Int32 → Int32 → Int32 → Int32 → ag_H → ag_R) (l0 : Option Nat) (l1 : Int32) (l2 : Int32) (h : ag_H) : ag_R :=
  ag_pF h l0 11 41 (.inl (ag_lit 0)) fun h1 =>
  ag_bI (call 114 [.inl l1, .inl (ag_lit 0), .inl (ag_lit 3)] h1) fun x3 h2 =>
  if x3 = (ag_lit 0) then
    ag_bI (call 114 [.inl l2, .inl (ag_lit 0), .inl (ag_lit 3)] h2) fun x5 h4 =>
    if x5 = (ag_lit 0) then
      ag_gR h4 l0 11 29 fun x6 =>
      ag_xI h4 x6 102 l1 fun x7 =>
      if x7 = (ag_lit 0) then
        some (.inl (some (.inl (ag_lit 0))), h4)
      else
        f174_41 call b41 l0 l1 l2 (ag_lit 0) (ag_lit 0) h4
    else
      f174_23 call b41 h4
  else
    f174_23 call b41 h2
def g174 (call : Nat → List ag_V → ag_H → ag_R) : Nat → Option Nat → Int32 → Int32 → Int32 → Int32 → ag_H → ag_R
  | 0 => fun _ _ _ _ _ _ => none
  | n + 1 => f174_41 call (g174 call n)
set_option maxRecDepth 100000 in
set_option maxHeartbeats 4000000 in
theorem i174_41 (call : Nat → List ag_V → ag_H → ag_R) (B : ag_K4) (l0 : Option Nat) (l1 : Int32) (l2 : Int32) (l3 : Int32) (l4 : Int32) (h : ag_H) : ag_in 1 call B t174 41 [some (.inr l0), some (.inl l1), some (.inl l2), some (.inl l3), some (.inl l4)] [] h = f174_41 call (fun (l0 : Option Nat) (l1 : Int32) (l2 : Int32) (l3 : Int32) (l4 : Int32) (h : ag_H) => B 41 [some (.inr l0), some (.inl l1), some (.inl l2), some (.inl l3), some (.inl l4)] [] h) l0 l1 l2 l3 l4 h := by
  rfl
set_option maxRecDepth 100000 in
set_option maxHeartbeats 4000000 in
theorem i174 (call : Nat → List ag_V → ag_H → ag_R) (B : ag_K4) (l0 : Option Nat) (l1 : Int32) (l2 : Int32) (h : ag_H) : ag_in 1 call B t174 0 [some (.inr l0), some (.inl l1), some (.inl l2), none, none] [] h = f174 call (fun (l0 : Option Nat) (l1 : Int32) (l2 : Int32) (l3 : Int32) (l4 : Int32) (h : ag_H) => B 41 [some (.inr l0), some (.inl l1), some (.inl l2), some (.inl l3), some (.inl l4)] [] h) l0 l1 l2 h := by
  rfl
set_option maxRecDepth 100000 in
set_option maxHeartbeats 4000000 in
theorem o174 (call : Nat → List ag_V → ag_H → ag_R) : ∀ n : Nat, (fun (l0 : Option Nat) (l1 : Int32) (l2 : Int32) (l3 : Int32) (l4 : Int32) (h : ag_H) => (ag_out 1 call t174 n) 41 [some (.inr l0), some (.inl l1), some (.inl l2), some (.inl l3), some (.inl l4)] [] h) = g174 call n := by
  intro n
  induction n with
  | zero => rfl
  | succ n ih =>
    funext l0 l1 l2 l3 l4 h
    show ag_in 1 call (ag_out 1 call t174 n) t174 41 [some (.inr l0), some (.inl l1), some (.inl l2), some (.inl l3), some (.inl l4)] [] h = f174_41 call (g174 call n) l0 l1 l2 l3 l4 h
    rw [i174_41, ih]
set_option maxRecDepth 100000 in
set_option maxHeartbeats 4000000 in
theorem r174 (d : Nat) (l0 : Option Nat) (l1 : Int32) (l2 : Int32) (h : ag_H) : ag_run gT (d + 1) 174 [.inr l0, .inl l1, .inl l2] h = f174 (ag_run gT d) (g174 (ag_run gT d) 3999) l0 l1 l2 h := by
  show ag_out 1 (ag_run gT d) t174 4000 0 [some (.inr l0), some (.inl l1), some (.inl l2), none, none] [] h = _
  rw [ag_out_top, i174, o174]

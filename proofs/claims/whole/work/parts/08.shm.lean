def f112_264 (call : Nat → List ag_V → ag_H → ag_R) (b264 : Option Nat → Int32 → ag_H → ag_R) (l0 : Option Nat) (l1 : Int32) (h : ag_H) : ag_R :=
  if (ag_lit 2) ≤ l1 then
    some (.inl none, h)
  else
    ag_gR h l0 11 7 fun x1 =>
    ag_isB (ag_lit 1) <| ag_xP h x1 102 ((ag_lit16 300) * l1) (.inl (ag_lit 1)) fun h2 =>
    ag_gR h2 l0 11 8 fun x3 =>
    ag_isB (ag_lit 1) <| ag_xP h2 x3 102 ((ag_lit16 300) * l1) (.inl (ag_lit 1)) fun h4 =>
    ag_gR h4 l0 11 9 fun x5 =>
    ag_xP h4 x5 100 ((ag_lit16 300) * l1) (.inl (ag_lit (-1))) fun h6 =>
    ag_gR h6 l0 11 10 fun x7 =>
    ag_xP h6 x7 100 ((ag_lit16 300) * l1) (.inl (ag_lit (-1))) fun h8 =>
    ag_gR h8 l0 11 6 fun x9 =>
    ag_xP h8 x9 100 l1 (.inl (ag_lit 1)) fun h10 =>
    ag_at h10 l0 11 fun a11 _ => ag_bV (call 123 [.inr (some a11), .inl l1, .inl (ag_lit 0)] h10) fun h12 =>
    b264 l0 (l1 + ag_lit 1) h12
/-- NameSpacesModel.<init>()V -/
def f112 (call : Nat → List ag_V → ag_H → ag_R) (b264 : Option Nat → Int32 → ag_H → ag_R) (l0 : Option Nat) (h : ag_H) : ag_R :=
  ag_nn l0 <|
  ag_na h (ag_lit8 24) 101 (.inl 0) fun o1 h2 =>
  ag_pF h2 l0 11 1 (.inr o1) fun h3 =>
  ag_na h3 (ag_lit8 24) 101 (.inl 0) fun o4 h5 =>
  ag_pF h5 l0 11 3 (.inr o4) fun h6 =>
  ag_na h6 (ag_lit8 12) 100 (.inl 0) fun o7 h8 =>
  ag_pF h8 l0 11 5 (.inr o7) fun h9 =>
  ag_na h9 (ag_lit 2) 100 (.inl 0) fun o10 h11 =>
  ag_pF h11 l0 11 6 (.inr o10) fun h12 =>
  ag_na h12 (ag_lit16 600) 102 (.inl 0) fun o13 h14 =>
  ag_pF h14 l0 11 7 (.inr o13) fun h15 =>
  ag_na h15 (ag_lit16 600) 102 (.inl 0) fun o16 h17 =>
  ag_pF h17 l0 11 8 (.inr o16) fun h18 =>
  ag_na h18 (ag_lit16 600) 100 (.inl 0) fun o19 h20 =>
  ag_pF h20 l0 11 9 (.inr o19) fun h21 =>
  ag_na h21 (ag_lit16 600) 100 (.inl 0) fun o22 h23 =>
  ag_pF h23 l0 11 10 (.inr o22) fun h24 =>
  ag_na h24 (ag_lit16 600) 100 (.inl 0) fun o25 h26 =>
  ag_pF h26 l0 11 11 (.inr o25) fun h27 =>
  ag_na h27 (ag_lit16 600) 100 (.inl 0) fun o28 h29 =>
  ag_pF h29 l0 11 12 (.inr o28) fun h30 =>
  ag_na h30 (ag_lit16 4800) 100 (.inl 0) fun o31 h32 =>
  ag_pF h32 l0 11 13 (.inr o31) fun h33 =>
  ag_na h33 (ag_lit16 400) 100 (.inl 0) fun o34 h35 =>
  ag_pF h35 l0 11 14 (.inr o34) fun h36 =>
  ag_na h36 (ag_lit 2) 100 (.inl 0) fun o37 h38 =>
  ag_pF h38 l0 11 15 (.inr o37) fun h39 =>
  ag_na h39 (ag_lit8 40) 100 (.inl 0) fun o40 h41 =>
  ag_pF h41 l0 11 16 (.inr o40) fun h42 =>
  ag_na h42 (ag_lit8 24) 100 (.inl 0) fun o43 h44 =>
  ag_pF h44 l0 11 18 (.inr o43) fun h45 =>
  ag_na h45 (ag_lit 4) 100 (.inl 0) fun o46 h47 =>
  ag_pF h47 l0 11 22 (.inr o46) fun h48 =>
  ag_na h48 (ag_lit8 16) 100 (.inl 0) fun o49 h50 =>
  ag_pF h50 l0 11 23 (.inr o49) fun h51 =>
  ag_na h51 (ag_lit8 16) 100 (.inl 0) fun o52 h53 =>
  ag_pF h53 l0 11 24 (.inr o52) fun h54 =>
  ag_na h54 (ag_lit8 16) 100 (.inl 0) fun o55 h56 =>
  ag_pF h56 l0 11 25 (.inr o55) fun h57 =>
  ag_na h57 (ag_lit8 48) 100 (.inl 0) fun o58 h59 =>
  ag_pF h59 l0 11 26 (.inr o58) fun h60 =>
  ag_na h60 (ag_lit8 48) 100 (.inl 0) fun o61 h62 =>
  ag_pF h62 l0 11 27 (.inr o61) fun h63 =>
  ag_na h63 (ag_lit8 48) 102 (.inl 0) fun o64 h65 =>
  ag_pF h65 l0 11 28 (.inr o64) fun h66 =>
  ag_na h66 (ag_lit 4) 102 (.inl 0) fun o67 h68 =>
  ag_pF h68 l0 11 29 (.inr o67) fun h69 =>
  ag_na h69 (ag_lit 4) 100 (.inl 0) fun o70 h71 =>
  ag_pF h71 l0 11 30 (.inr o70) fun h72 =>
  ag_na h72 (ag_lit8 20) 100 (.inl 0) fun o73 h74 =>
  ag_pF h74 l0 11 31 (.inr o73) fun h75 =>
  ag_na h75 (ag_lit8 20) 102 (.inl 0) fun o76 h77 =>
  ag_pF h77 l0 11 32 (.inr o76) fun h78 =>
  ag_na h78 (ag_lit8 60) 100 (.inl 0) fun o79 h80 =>
  ag_pF h80 l0 11 33 (.inr o79) fun h81 =>
  ag_na h81 (ag_lit8 60) 100 (.inl 0) fun o82 h83 =>
  ag_pF h83 l0 11 34 (.inr o82) fun h84 =>
  ag_na h84 (ag_lit8 20) 100 (.inl 0) fun o85 h86 =>
  ag_pF h86 l0 11 35 (.inr o85) fun h87 =>
  ag_na h87 (ag_lit8 20) 100 (.inl 0) fun o88 h89 =>
  ag_pF h89 l0 11 36 (.inr o88) fun h90 =>
  ag_na h90 (ag_lit8 20) 100 (.inl 0) fun o91 h92 =>
  ag_pF h92 l0 11 37 (.inr o91) fun h93 =>
  ag_gR h93 l0 11 29 fun x94 =>
  ag_isB (ag_lit 1) <| ag_xP h93 x94 102 (ag_lit 0) (.inl (ag_lit 1)) fun h95 =>
  f112_264 call b264 l0 (ag_lit 0) h95
def g112 (call : Nat → List ag_V → ag_H → ag_R) : Nat → Option Nat → Int32 → ag_H → ag_R
  | 0 => fun _ _ _ => none
  | n + 1 => f112_264 call (g112 call n)
set_option maxRecDepth 100000 in
set_option maxHeartbeats 4000000 in
theorem i112_264 (call : Nat → List ag_V → ag_H → ag_R) (B : ag_K4) (l0 : Option Nat) (l1 : Int32) (h : ag_H) : ag_in 0 call B t112 264 [some (.inr l0), some (.inl l1)] [] h = f112_264 call (fun (l0 : Option Nat) (l1 : Int32) (h : ag_H) => B 264 [some (.inr l0), some (.inl l1)] [] h) l0 l1 h := by
  rfl
set_option maxRecDepth 100000 in
set_option maxHeartbeats 4000000 in
theorem i112 (call : Nat → List ag_V → ag_H → ag_R) (B : ag_K4) (l0 : Option Nat) (h : ag_H) : ag_in 0 call B t112 0 [some (.inr l0), none] [] h = f112 call (fun (l0 : Option Nat) (l1 : Int32) (h : ag_H) => B 264 [some (.inr l0), some (.inl l1)] [] h) l0 h := by
  rfl
set_option maxRecDepth 100000 in
set_option maxHeartbeats 4000000 in
theorem o112 (call : Nat → List ag_V → ag_H → ag_R) : ∀ n : Nat, (fun (l0 : Option Nat) (l1 : Int32) (h : ag_H) => (ag_out 0 call t112 n) 264 [some (.inr l0), some (.inl l1)] [] h) = g112 call n := by
  intro n
  induction n with
  | zero => rfl
  | succ n ih =>
    funext l0 l1 h
    show ag_in 0 call (ag_out 0 call t112 n) t112 264 [some (.inr l0), some (.inl l1)] [] h = f112_264 call (g112 call n) l0 l1 h
    rw [i112_264, ih]
set_option maxRecDepth 100000 in
set_option maxHeartbeats 4000000 in
theorem r112 (d : Nat) (l0 : Option Nat) (h : ag_H) : ag_run gT (d + 1) 112 [.inr l0] h = f112 (ag_run gT d) (g112 (ag_run gT d) 3999) l0 h := by
  show ag_out 0 (ag_run gT d) t112 4000 0 [some (.inr l0), none] [] h = _
  rw [ag_out_top, i112, o112]
/-- NameSpacesModel.thrown()I -/
def f113 (call : Nat → List ag_V → ag_H → ag_R)  (l0 : Option Nat) (h : ag_H) : ag_R :=
  ag_gI h l0 11 41 fun x1 =>
  some (.inl (some (.inl x1)), h)
set_option maxRecDepth 100000 in
set_option maxHeartbeats 4000000 in
theorem i113 (call : Nat → List ag_V → ag_H → ag_R) (B : ag_K4) (l0 : Option Nat) (h : ag_H) : ag_in 1 call B t113 0 [some (.inr l0)] [] h = f113 call  l0 h := by
  rfl
set_option maxRecDepth 100000 in
set_option maxHeartbeats 4000000 in
theorem r113 (d : Nat) (l0 : Option Nat) (h : ag_H) : ag_run gT (d + 1) 113 [.inr l0] h = f113 (ag_run gT d)  l0 h := by
  show ag_out 1 (ag_run gT d) t113 4000 0 [some (.inr l0)] [] h = _
  rw [ag_out_top, i113]
def f114_15 (call : Nat → List ag_V → ag_H → ag_R)  (s0 : Int32) (h : ag_H) : ag_R :=
  ag_isB s0 (some (.inl (some (.inl s0)), h))
def f114_10 (call : Nat → List ag_V → ag_H → ag_R)   (h : ag_H) : ag_R :=
  f114_15 call (ag_lit 1) h
/-- NameSpacesModel.outside(III)Z -/
def f114 (call : Nat → List ag_V → ag_H → ag_R)  (l0 : Int32) (l1 : Int32) (l2 : Int32) (h : ag_H) : ag_R :=
  if l0 < l1 then
    f114_10 call h
  else
    if l0 ≤ l2 then
      f114_15 call (ag_lit 0) h
    else
      f114_10 call h
set_option maxRecDepth 100000 in
set_option maxHeartbeats 4000000 in
theorem i114 (call : Nat → List ag_V → ag_H → ag_R) (B : ag_K4) (l0 : Int32) (l1 : Int32) (l2 : Int32) (h : ag_H) : ag_in 4 call B t114 0 [some (.inl l0), some (.inl l1), some (.inl l2)] [] h = f114 call  l0 l1 l2 h := by
  rfl
set_option maxRecDepth 100000 in
set_option maxHeartbeats 4000000 in
theorem r114 (d : Nat) (l0 : Int32) (l1 : Int32) (l2 : Int32) (h : ag_H) : ag_run gT (d + 1) 114 [.inl l0, .inl l1, .inl l2] h = f114 (ag_run gT d)  l0 l1 l2 h := by
  show ag_out 4 (ag_run gT d) t114 4000 0 [some (.inl l0), some (.inl l1), some (.inl l2)] [] h = _
  rw [ag_out_top, i114]
def f115_2 (call : Nat → List ag_V → ag_H → ag_R) (b2 : Option Nat → Int32 → Int32 → Int32 → ag_H → ag_R) (l0 : Option Nat) (l1 : Int32) (l2 : Int32) (l3 : Int32) (h : ag_H) : ag_R :=
  if l2 ≤ l3 then
    some (.inl none, h)
  else
    ag_gR h l0 11 16 fun x1 =>
    ag_gI h l0 11 17 fun x2 =>
    ag_xP h x1 100 x2 (.inl (((l1.toUInt32 >>> (((ag_lit8 8) * l3).toUInt32 &&& Int32.toUInt32 31)).toInt32) &&& (ag_lit16 255))) fun h3 =>
    ag_gI h3 l0 11 17 fun x4 =>
    ag_pF h3 l0 11 17 (.inl (x4 + (ag_lit 1))) fun h5 =>
    b2 l0 l1 l2 (l3 + ag_lit 1) h5
/-- NameSpacesModel.number(II)V -/
def f115 (call : Nat → List ag_V → ag_H → ag_R) (b2 : Option Nat → Int32 → Int32 → Int32 → ag_H → ag_R) (l0 : Option Nat) (l1 : Int32) (l2 : Int32) (h : ag_H) : ag_R :=
  f115_2 call b2 l0 l1 l2 (ag_lit 0) h
def g115 (call : Nat → List ag_V → ag_H → ag_R) : Nat → Option Nat → Int32 → Int32 → Int32 → ag_H → ag_R
  | 0 => fun _ _ _ _ _ => none
  | n + 1 => f115_2 call (g115 call n)
set_option maxRecDepth 100000 in
set_option maxHeartbeats 4000000 in
theorem i115_2 (call : Nat → List ag_V → ag_H → ag_R) (B : ag_K4) (l0 : Option Nat) (l1 : Int32) (l2 : Int32) (l3 : Int32) (h : ag_H) : ag_in 0 call B t115 2 [some (.inr l0), some (.inl l1), some (.inl l2), some (.inl l3)] [] h = f115_2 call (fun (l0 : Option Nat) (l1 : Int32) (l2 : Int32) (l3 : Int32) (h : ag_H) => B 2 [some (.inr l0), some (.inl l1), some (.inl l2), some (.inl l3)] [] h) l0 l1 l2 l3 h := by
  rfl
set_option maxRecDepth 100000 in
set_option maxHeartbeats 4000000 in
theorem i115 (call : Nat → List ag_V → ag_H → ag_R) (B : ag_K4) (l0 : Option Nat) (l1 : Int32) (l2 : Int32) (h : ag_H) : ag_in 0 call B t115 0 [some (.inr l0), some (.inl l1), some (.inl l2), none] [] h = f115 call (fun (l0 : Option Nat) (l1 : Int32) (l2 : Int32) (l3 : Int32) (h : ag_H) => B 2 [some (.inr l0), some (.inl l1), some (.inl l2), some (.inl l3)] [] h) l0 l1 l2 h := by
  rfl
set_option maxRecDepth 100000 in
set_option maxHeartbeats 4000000 in
theorem o115 (call : Nat → List ag_V → ag_H → ag_R) : ∀ n : Nat, (fun (l0 : Option Nat) (l1 : Int32) (l2 : Int32) (l3 : Int32) (h : ag_H) => (ag_out 0 call t115 n) 2 [some (.inr l0), some (.inl l1), some (.inl l2), some (.inl l3)] [] h) = g115 call n := by
  intro n
  induction n with
  | zero => rfl
  | succ n ih =>
    funext l0 l1 l2 l3 h
    show ag_in 0 call (ag_out 0 call t115 n) t115 2 [some (.inr l0), some (.inl l1), some (.inl l2), some (.inl l3)] [] h = f115_2 call (g115 call n) l0 l1 l2 l3 h
    rw [i115_2, ih]
set_option maxRecDepth 100000 in
set_option maxHeartbeats 4000000 in
theorem r115 (d : Nat) (l0 : Option Nat) (l1 : Int32) (l2 : Int32) (h : ag_H) : ag_run gT (d + 1) 115 [.inr l0, .inl l1, .inl l2] h = f115 (ag_run gT d) (g115 (ag_run gT d) 3999) l0 l1 l2 h := by
  show ag_out 0 (ag_run gT d) t115 4000 0 [some (.inr l0), some (.inl l1), some (.inl l2), none] [] h = _
  rw [ag_out_top, i115, o115]
def f116_2 (call : Nat → List ag_V → ag_H → ag_R) (b2 : Option Nat → Int32 → Int32 → Int32 → ag_H → ag_R) (l0 : Option Nat) (l1 : Int32) (l2 : Int32) (l3 : Int32) (h : ag_H) : ag_R :=
  if l2 ≤ l3 then
    some (.inl none, h)
  else
    ag_gR h l0 11 18 fun x1 =>
    ag_gI h l0 11 19 fun x2 =>
    ag_xP h x1 100 x2 (.inl (((l1.toUInt32 >>> (((ag_lit8 8) * l3).toUInt32 &&& Int32.toUInt32 31)).toInt32) &&& (ag_lit16 255))) fun h3 =>
    ag_gI h3 l0 11 19 fun x4 =>
    ag_pF h3 l0 11 19 (.inl (x4 + (ag_lit 1))) fun h5 =>
    b2 l0 l1 l2 (l3 + ag_lit 1) h5
/-- NameSpacesModel.back(II)V -/
def f116 (call : Nat → List ag_V → ag_H → ag_R) (b2 : Option Nat → Int32 → Int32 → Int32 → ag_H → ag_R) (l0 : Option Nat) (l1 : Int32) (l2 : Int32) (h : ag_H) : ag_R :=
  f116_2 call b2 l0 l1 l2 (ag_lit 0) h
def g116 (call : Nat → List ag_V → ag_H → ag_R) : Nat → Option Nat → Int32 → Int32 → Int32 → ag_H → ag_R
  | 0 => fun _ _ _ _ _ => none
  | n + 1 => f116_2 call (g116 call n)
set_option maxRecDepth 100000 in
set_option maxHeartbeats 4000000 in
theorem i116_2 (call : Nat → List ag_V → ag_H → ag_R) (B : ag_K4) (l0 : Option Nat) (l1 : Int32) (l2 : Int32) (l3 : Int32) (h : ag_H) : ag_in 0 call B t116 2 [some (.inr l0), some (.inl l1), some (.inl l2), some (.inl l3)] [] h = f116_2 call (fun (l0 : Option Nat) (l1 : Int32) (l2 : Int32) (l3 : Int32) (h : ag_H) => B 2 [some (.inr l0), some (.inl l1), some (.inl l2), some (.inl l3)] [] h) l0 l1 l2 l3 h := by
  rfl
set_option maxRecDepth 100000 in
set_option maxHeartbeats 4000000 in
theorem i116 (call : Nat → List ag_V → ag_H → ag_R) (B : ag_K4) (l0 : Option Nat) (l1 : Int32) (l2 : Int32) (h : ag_H) : ag_in 0 call B t116 0 [some (.inr l0), some (.inl l1), some (.inl l2), none] [] h = f116 call (fun (l0 : Option Nat) (l1 : Int32) (l2 : Int32) (l3 : Int32) (h : ag_H) => B 2 [some (.inr l0), some (.inl l1), some (.inl l2), some (.inl l3)] [] h) l0 l1 l2 h := by
  rfl
set_option maxRecDepth 100000 in
set_option maxHeartbeats 4000000 in
theorem o116 (call : Nat → List ag_V → ag_H → ag_R) : ∀ n : Nat, (fun (l0 : Option Nat) (l1 : Int32) (l2 : Int32) (l3 : Int32) (h : ag_H) => (ag_out 0 call t116 n) 2 [some (.inr l0), some (.inl l1), some (.inl l2), some (.inl l3)] [] h) = g116 call n := by
  intro n
  induction n with
  | zero => rfl
  | succ n ih =>
    funext l0 l1 l2 l3 h
    show ag_in 0 call (ag_out 0 call t116 n) t116 2 [some (.inr l0), some (.inl l1), some (.inl l2), some (.inl l3)] [] h = f116_2 call (g116 call n) l0 l1 l2 l3 h
    rw [i116_2, ih]
set_option maxRecDepth 100000 in
set_option maxHeartbeats 4000000 in
theorem r116 (d : Nat) (l0 : Option Nat) (l1 : Int32) (l2 : Int32) (h : ag_H) : ag_run gT (d + 1) 116 [.inr l0, .inl l1, .inl l2] h = f116 (ag_run gT d) (g116 (ag_run gT d) 3999) l0 l1 l2 h := by
  show ag_out 0 (ag_run gT d) t116 4000 0 [some (.inr l0), some (.inl l1), some (.inl l2), none] [] h = _
  rw [ag_out_top, i116, o116]
/-- NameSpacesModel.ask(III)V -/
def f117 (call : Nat → List ag_V → ag_H → ag_R)  (l0 : Option Nat) (l1 : Int32) (l2 : Int32) (l3 : Int32) (h : ag_H) : ag_R :=
  ag_pF h l0 11 17 (.inl (ag_lit 4)) fun h1 =>
  ag_at h1 l0 11 fun a2 _ => ag_bV (call 115 [.inr (some a2), .inl l2, .inl (ag_lit 1)] h1) fun h3 =>
  ag_at h3 l0 11 fun a4 _ => ag_bV (call 115 [.inr (some a4), .inl (ag_lit 1), .inl (ag_lit 2)] h3) fun h5 =>
  ag_at h5 l0 11 fun a6 _ => ag_bV (call 115 [.inr (some a6), .inl l3, .inl (ag_lit 4)] h5) fun h7 =>
  ag_gR h7 l0 11 15 fun x8 =>
  ag_xI h7 x8 100 l1 fun x9 =>
  ag_xP h7 x8 100 l1 (.inl (x9 + (ag_lit 1))) fun h10 =>
  ag_pF h10 l0 11 20 (.inl (ag_lit 0)) fun h11 =>
  ag_pF h11 l0 11 19 (.inl (ag_lit 4)) fun h12 =>
  ag_at h12 l0 11 fun a13 _ => ag_bV (call 116 [.inr (some a13), .inl (l2 + (ag_lit 1)), .inl (ag_lit 1)] h12) fun h14 =>
  ag_at h14 l0 11 fun a15 _ => ag_bV (call 116 [.inr (some a15), .inl (ag_lit 1), .inl (ag_lit 2)] h14) fun h16 =>
  some (.inl none, h16)
set_option maxRecDepth 100000 in
set_option maxHeartbeats 4000000 in
theorem i117 (call : Nat → List ag_V → ag_H → ag_R) (B : ag_K4) (l0 : Option Nat) (l1 : Int32) (l2 : Int32) (l3 : Int32) (h : ag_H) : ag_in 0 call B t117 0 [some (.inr l0), some (.inl l1), some (.inl l2), some (.inl l3)] [] h = f117 call  l0 l1 l2 l3 h := by
  rfl
set_option maxRecDepth 100000 in
set_option maxHeartbeats 4000000 in
theorem r117 (d : Nat) (l0 : Option Nat) (l1 : Int32) (l2 : Int32) (l3 : Int32) (h : ag_H) : ag_run gT (d + 1) 117 [.inr l0, .inl l1, .inl l2, .inl l3] h = f117 (ag_run gT d)  l0 l1 l2 l3 h := by
  show ag_out 0 (ag_run gT d) t117 4000 0 [some (.inr l0), some (.inl l1), some (.inl l2), some (.inl l3)] [] h = _
  rw [ag_out_top, i117]
/-- NameSpacesModel.wrong(I)V -/
def f118 (call : Nat → List ag_V → ag_H → ag_R)  (l0 : Option Nat) (l1 : Int32) (h : ag_H) : ag_R :=
  ag_pF h l0 11 20 (.inl l1) fun h1 =>
  ag_pF h1 l0 11 19 (.inl (ag_lit 4)) fun h2 =>
  ag_at h2 l0 11 fun a3 _ => ag_bV (call 116 [.inr (some a3), .inl (ag_lit8 107), .inl (ag_lit 1)] h2) fun h4 =>
  ag_at h4 l0 11 fun a5 _ => ag_bV (call 116 [.inr (some a5), .inl (ag_lit 1), .inl (ag_lit 2)] h4) fun h6 =>
  ag_at h6 l0 11 fun a7 _ => ag_bV (call 116 [.inr (some a7), .inl (ag_lit 1), .inl (ag_lit 2)] h6) fun h8 =>
  ag_at h8 l0 11 fun a9 _ => ag_bV (call 116 [.inr (some a9), .inl l1, .inl (ag_lit 1)] h8) fun h10 =>
  some (.inl none, h10)
set_option maxRecDepth 100000 in
set_option maxHeartbeats 4000000 in
theorem i118 (call : Nat → List ag_V → ag_H → ag_R) (B : ag_K4) (l0 : Option Nat) (l1 : Int32) (h : ag_H) : ag_in 0 call B t118 0 [some (.inr l0), some (.inl l1)] [] h = f118 call  l0 l1 h := by
  rfl
set_option maxRecDepth 100000 in
set_option maxHeartbeats 4000000 in
theorem r118 (d : Nat) (l0 : Option Nat) (l1 : Int32) (h : ag_H) : ag_run gT (d + 1) 118 [.inr l0, .inl l1] h = f118 (ag_run gT d)  l0 l1 h := by
  show ag_out 0 (ag_run gT d) t118 4000 0 [some (.inr l0), some (.inl l1)] [] h = _
  rw [ag_out_top, i118]
def f119_15 (call : Nat → List ag_V → ag_H → ag_R)  (l0 : Option Nat) (l1 : Int32) (s0 : Option Nat) (s1 : Int32) (h : ag_H) : ag_R :=
  ag_at h s0 11 fun a1 _ => ag_bV (call 116 [.inr (some a1), .inl s1, .inl (ag_lit 1)] h) fun h2 =>
  ag_gR h2 l0 11 12 fun x3 =>
  ag_xI h2 x3 100 l1 fun x4 =>
  ag_at h2 l0 11 fun a5 _ => ag_bV (call 116 [.inr (some a5), .inl x4, .inl (ag_lit 4)] h2) fun h6 =>
  ag_dv (ag_lit16 300) <|
  ag_at h6 l0 11 fun a7 _ => ag_bV (call 116 [.inr (some a7), .inl (l1 - l1 / (ag_lit16 300) * (ag_lit16 300)), .inl (ag_lit 4)] h6) fun h8 =>
  some (.inl none, h8)
/-- NameSpacesModel.tell(I)V -/
def f119 (call : Nat → List ag_V → ag_H → ag_R)  (l0 : Option Nat) (l1 : Int32) (h : ag_H) : ag_R :=
  ag_gR h l0 11 8 fun x1 =>
  ag_xI h x1 102 l1 fun x2 =>
  if x2 = (ag_lit 0) then
    f119_15 call l0 l1 l0 (ag_lit 0) h
  else
    f119_15 call l0 l1 l0 (ag_lit 1) h
set_option maxRecDepth 100000 in
set_option maxHeartbeats 4000000 in
theorem i119 (call : Nat → List ag_V → ag_H → ag_R) (B : ag_K4) (l0 : Option Nat) (l1 : Int32) (h : ag_H) : ag_in 0 call B t119 0 [some (.inr l0), some (.inl l1)] [] h = f119 call  l0 l1 h := by
  rfl
set_option maxRecDepth 100000 in
set_option maxHeartbeats 4000000 in
theorem r119 (d : Nat) (l0 : Option Nat) (l1 : Int32) (h : ag_H) : ag_run gT (d + 1) 119 [.inr l0, .inl l1] h = f119 (ag_run gT d)  l0 l1 h := by
  show ag_out 0 (ag_run gT d) t119 4000 0 [some (.inr l0), some (.inl l1)] [] h = _
  rw [ag_out_top, i119]
def f120_2 (call : Nat → List ag_V → ag_H → ag_R) (b2 : Option Nat → Int32 → ag_H → ag_R) (l0 : Option Nat) (l1 : Int32) (h : ag_H) : ag_R :=
  if (ag_lit 4) ≤ l1 then
    some (.inl none, h)
  else
    ag_gR h l0 11 16 fun x1 =>
    ag_gI h l0 11 17 fun x2 =>
    ag_xP h x1 100 l1 (.inl (((x2.toUInt32 >>> (((ag_lit8 8) * l1).toUInt32 &&& Int32.toUInt32 31)).toInt32) &&& (ag_lit16 255))) fun h3 =>
    ag_gR h3 l0 11 18 fun x4 =>
    ag_gI h3 l0 11 19 fun x5 =>
    ag_xP h3 x4 100 l1 (.inl (((x5.toUInt32 >>> (((ag_lit8 8) * l1).toUInt32 &&& Int32.toUInt32 31)).toInt32) &&& (ag_lit16 255))) fun h6 =>
    b2 l0 (l1 + ag_lit 1) h6
/-- NameSpacesModel.sent()V -/
def f120 (call : Nat → List ag_V → ag_H → ag_R) (b2 : Option Nat → Int32 → ag_H → ag_R) (l0 : Option Nat) (h : ag_H) : ag_R :=
  f120_2 call b2 l0 (ag_lit 0) h
def g120 (call : Nat → List ag_V → ag_H → ag_R) : Nat → Option Nat → Int32 → ag_H → ag_R
  | 0 => fun _ _ _ => none
  | n + 1 => f120_2 call (g120 call n)
set_option maxRecDepth 100000 in
set_option maxHeartbeats 4000000 in
theorem i120_2 (call : Nat → List ag_V → ag_H → ag_R) (B : ag_K4) (l0 : Option Nat) (l1 : Int32) (h : ag_H) : ag_in 0 call B t120 2 [some (.inr l0), some (.inl l1)] [] h = f120_2 call (fun (l0 : Option Nat) (l1 : Int32) (h : ag_H) => B 2 [some (.inr l0), some (.inl l1)] [] h) l0 l1 h := by
  rfl
set_option maxRecDepth 100000 in
set_option maxHeartbeats 4000000 in
theorem i120 (call : Nat → List ag_V → ag_H → ag_R) (B : ag_K4) (l0 : Option Nat) (h : ag_H) : ag_in 0 call B t120 0 [some (.inr l0), none] [] h = f120 call (fun (l0 : Option Nat) (l1 : Int32) (h : ag_H) => B 2 [some (.inr l0), some (.inl l1)] [] h) l0 h := by
  rfl
set_option maxRecDepth 100000 in
set_option maxHeartbeats 4000000 in
theorem o120 (call : Nat → List ag_V → ag_H → ag_R) : ∀ n : Nat, (fun (l0 : Option Nat) (l1 : Int32) (h : ag_H) => (ag_out 0 call t120 n) 2 [some (.inr l0), some (.inl l1)] [] h) = g120 call n := by
  intro n
  induction n with
  | zero => rfl
  | succ n ih =>
    funext l0 l1 h
    show ag_in 0 call (ag_out 0 call t120 n) t120 2 [some (.inr l0), some (.inl l1)] [] h = f120_2 call (g120 call n) l0 l1 h
    rw [i120_2, ih]
set_option maxRecDepth 100000 in
set_option maxHeartbeats 4000000 in
theorem r120 (d : Nat) (l0 : Option Nat) (h : ag_H) : ag_run gT (d + 1) 120 [.inr l0] h = f120 (ag_run gT d) (g120 (ag_run gT d) 3999) l0 h := by
  show ag_out 0 (ag_run gT d) t120 4000 0 [some (.inr l0), none] [] h = _
  rw [ag_out_top, i120, o120]
/-- NameSpacesModel.fileOf(II)I -/
def f121 (call : Nat → List ag_V → ag_H → ag_R)  (l0 : Option Nat) (l1 : Int32) (l2 : Int32) (h : ag_H) : ag_R :=
  ag_gR h l0 11 14 fun x1 =>
  ag_xI h x1 100 (((ag_lit16 200) * l1) + l2) fun x2 =>
  some (.inl (some (.inl ((((ag_lit16 300) * l1) + x2) - (ag_lit 1)))), h)
set_option maxRecDepth 100000 in
set_option maxHeartbeats 4000000 in
theorem i121 (call : Nat → List ag_V → ag_H → ag_R) (B : ag_K4) (l0 : Option Nat) (l1 : Int32) (l2 : Int32) (h : ag_H) : ag_in 1 call B t121 0 [some (.inr l0), some (.inl l1), some (.inl l2)] [] h = f121 call  l0 l1 l2 h := by
  rfl
set_option maxRecDepth 100000 in
set_option maxHeartbeats 4000000 in
theorem r121 (d : Nat) (l0 : Option Nat) (l1 : Int32) (l2 : Int32) (h : ag_H) : ag_run gT (d + 1) 121 [.inr l0, .inl l1, .inl l2] h = f121 (ag_run gT d)  l0 l1 l2 h := by
  show ag_out 1 (ag_run gT d) t121 4000 0 [some (.inr l0), some (.inl l1), some (.inl l2)] [] h = _
  rw [ag_out_top, i121]
def f122_2 (call : Nat → List ag_V → ag_H → ag_R) (b2 : Option Nat → Int32 → Int32 → ag_H → ag_R) (l0 : Option Nat) (l1 : Int32) (l2 : Int32) (h : ag_H) : ag_R :=
  ag_gR h l0 11 14 fun x1 =>
  ag_xI h x1 100 (((ag_lit16 200) * l1) + l2) fun x2 =>
  if x2 = (ag_lit 0) then
    some (.inl (some (.inl l2)), h)
  else
    b2 l0 l1 (l2 + ag_lit 1) h
/-- NameSpacesModel.fresh(I)I -/
def f122 (call : Nat → List ag_V → ag_H → ag_R) (b2 : Option Nat → Int32 → Int32 → ag_H → ag_R) (l0 : Option Nat) (l1 : Int32) (h : ag_H) : ag_R :=
  f122_2 call b2 l0 l1 (ag_lit 0) h
def g122 (call : Nat → List ag_V → ag_H → ag_R) : Nat → Option Nat → Int32 → Int32 → ag_H → ag_R
  | 0 => fun _ _ _ _ => none
  | n + 1 => f122_2 call (g122 call n)
set_option maxRecDepth 100000 in
set_option maxHeartbeats 4000000 in
theorem i122_2 (call : Nat → List ag_V → ag_H → ag_R) (B : ag_K4) (l0 : Option Nat) (l1 : Int32) (l2 : Int32) (h : ag_H) : ag_in 1 call B t122 2 [some (.inr l0), some (.inl l1), some (.inl l2)] [] h = f122_2 call (fun (l0 : Option Nat) (l1 : Int32) (l2 : Int32) (h : ag_H) => B 2 [some (.inr l0), some (.inl l1), some (.inl l2)] [] h) l0 l1 l2 h := by
  rfl
set_option maxRecDepth 100000 in
set_option maxHeartbeats 4000000 in
theorem i122 (call : Nat → List ag_V → ag_H → ag_R) (B : ag_K4) (l0 : Option Nat) (l1 : Int32) (h : ag_H) : ag_in 1 call B t122 0 [some (.inr l0), some (.inl l1), none] [] h = f122 call (fun (l0 : Option Nat) (l1 : Int32) (l2 : Int32) (h : ag_H) => B 2 [some (.inr l0), some (.inl l1), some (.inl l2)] [] h) l0 l1 h := by
  rfl
set_option maxRecDepth 100000 in
set_option maxHeartbeats 4000000 in
theorem o122 (call : Nat → List ag_V → ag_H → ag_R) : ∀ n : Nat, (fun (l0 : Option Nat) (l1 : Int32) (l2 : Int32) (h : ag_H) => (ag_out 1 call t122 n) 2 [some (.inr l0), some (.inl l1), some (.inl l2)] [] h) = g122 call n := by
  intro n
  induction n with
  | zero => rfl
  | succ n ih =>
    funext l0 l1 l2 h
    show ag_in 1 call (ag_out 1 call t122 n) t122 2 [some (.inr l0), some (.inl l1), some (.inl l2)] [] h = f122_2 call (g122 call n) l0 l1 l2 h
    rw [i122_2, ih]
set_option maxRecDepth 100000 in
set_option maxHeartbeats 4000000 in
theorem r122 (d : Nat) (l0 : Option Nat) (l1 : Int32) (h : ag_H) : ag_run gT (d + 1) 122 [.inr l0, .inl l1] h = f122 (ag_run gT d) (g122 (ag_run gT d) 3999) l0 l1 h := by
  show ag_out 1 (ag_run gT d) t122 4000 0 [some (.inr l0), some (.inl l1), none] [] h = _
  rw [ag_out_top, i122, o122]
/-- NameSpacesModel.attach(II)V -/
def f123 (call : Nat → List ag_V → ag_H → ag_R)  (l0 : Option Nat) (l1 : Int32) (l2 : Int32) (h : ag_H) : ag_R :=
  ag_at h l0 11 fun a1 _ => ag_bV (call 117 [.inr (some a1), .inl l1, .inl (ag_lit8 104), .inl l2] h) fun h2 =>
  ag_gR h2 l0 11 14 fun x3 =>
  ag_xP h2 x3 100 (((ag_lit16 200) * l1) + l2) (.inl (ag_lit 1)) fun h4 =>
  ag_at h4 l0 11 fun a5 _ => ag_bV (call 119 [.inr (some a5), .inl ((ag_lit16 300) * l1)] h4) fun h6 =>
  ag_at h6 l0 11 fun a7 _ => ag_bV (call 120 [.inr (some a7)] h6) fun h8 =>
  some (.inl none, h8)
set_option maxRecDepth 100000 in
set_option maxHeartbeats 4000000 in
theorem i123 (call : Nat → List ag_V → ag_H → ag_R) (B : ag_K4) (l0 : Option Nat) (l1 : Int32) (l2 : Int32) (h : ag_H) : ag_in 0 call B t123 0 [some (.inr l0), some (.inl l1), some (.inl l2)] [] h = f123 call  l0 l1 l2 h := by
  rfl
set_option maxRecDepth 100000 in
set_option maxHeartbeats 4000000 in
theorem r123 (d : Nat) (l0 : Option Nat) (l1 : Int32) (l2 : Int32) (h : ag_H) : ag_run gT (d + 1) 123 [.inr l0, .inl l1, .inl l2] h = f123 (ag_run gT d)  l0 l1 l2 h := by
  show ag_out 0 (ag_run gT d) t123 4000 0 [some (.inr l0), some (.inl l1), some (.inl l2)] [] h = _
  rw [ag_out_top, i123]
def f124_59 (call : Nat → List ag_V → ag_H → ag_R) (b7 : Option Nat → Int32 → Int32 → Int32 → Int32 → ag_H → ag_R) (l0 : Option Nat) (l1 : Int32) (l2 : Int32) (l3 : Int32) (l4 : Int32) (h : ag_H) : ag_R :=
  b7 l0 l1 l2 l3 (l4 + ag_lit 1) h
def f124_7 (call : Nat → List ag_V → ag_H → ag_R) (b7 : Option Nat → Int32 → Int32 → Int32 → Int32 → ag_H → ag_R) (l0 : Option Nat) (l1 : Int32) (l2 : Int32) (l3 : Int32) (l4 : Int32) (h : ag_H) : ag_R :=
  ag_gR h l0 11 6 fun x1 =>
  ag_xI h x1 100 l1 fun x2 =>
  if (((ag_lit16 300) * l1) + x2) ≤ l4 then
    some (.inl (some (.inl (ag_lit (-1)))), h)
  else
    ag_gR h l0 11 7 fun x3 =>
    ag_xI h x3 102 l4 fun x4 =>
    if x4 = (ag_lit 0) then
      f124_59 call b7 l0 l1 l2 l3 l4 h
    else
      ag_gR h l0 11 10 fun x5 =>
      ag_xI h x5 100 l4 fun x6 =>
      if x6 = l2 then
        ag_gR h l0 11 9 fun x7 =>
        ag_xI h x7 100 l4 fun x8 =>
        if x8 = l3 then
          some (.inl (some (.inl l4)), h)
        else
          f124_59 call b7 l0 l1 l2 l3 l4 h
      else
        f124_59 call b7 l0 l1 l2 l3 l4 h
/-- NameSpacesModel.inside(III)I -/
def f124 (call : Nat → List ag_V → ag_H → ag_R) (b7 : Option Nat → Int32 → Int32 → Int32 → Int32 → ag_H → ag_R) (l0 : Option Nat) (l1 : Int32) (l2 : Int32) (l3 : Int32) (h : ag_H) : ag_R :=
  f124_7 call b7 l0 l1 l2 l3 ((ag_lit16 300) * l1) h
def g124 (call : Nat → List ag_V → ag_H → ag_R) : Nat → Option Nat → Int32 → Int32 → Int32 → Int32 → ag_H → ag_R
  | 0 => fun _ _ _ _ _ _ => none
  | n + 1 => f124_7 call (g124 call n)
set_option maxRecDepth 100000 in
set_option maxHeartbeats 4000000 in
theorem i124_7 (call : Nat → List ag_V → ag_H → ag_R) (B : ag_K4) (l0 : Option Nat) (l1 : Int32) (l2 : Int32) (l3 : Int32) (l4 : Int32) (h : ag_H) : ag_in 1 call B t124 7 [some (.inr l0), some (.inl l1), some (.inl l2), some (.inl l3), some (.inl l4)] [] h = f124_7 call (fun (l0 : Option Nat) (l1 : Int32) (l2 : Int32) (l3 : Int32) (l4 : Int32) (h : ag_H) => B 7 [some (.inr l0), some (.inl l1), some (.inl l2), some (.inl l3), some (.inl l4)] [] h) l0 l1 l2 l3 l4 h := by
  rfl
set_option maxRecDepth 100000 in
set_option maxHeartbeats 4000000 in
theorem i124 (call : Nat → List ag_V → ag_H → ag_R) (B : ag_K4) (l0 : Option Nat) (l1 : Int32) (l2 : Int32) (l3 : Int32) (h : ag_H) : ag_in 1 call B t124 0 [some (.inr l0), some (.inl l1), some (.inl l2), some (.inl l3), none] [] h = f124 call (fun (l0 : Option Nat) (l1 : Int32) (l2 : Int32) (l3 : Int32) (l4 : Int32) (h : ag_H) => B 7 [some (.inr l0), some (.inl l1), some (.inl l2), some (.inl l3), some (.inl l4)] [] h) l0 l1 l2 l3 h := by
  rfl
set_option maxRecDepth 100000 in
set_option maxHeartbeats 4000000 in
theorem o124 (call : Nat → List ag_V → ag_H → ag_R) : ∀ n : Nat, (fun (l0 : Option Nat) (l1 : Int32) (l2 : Int32) (l3 : Int32) (l4 : Int32) (h : ag_H) => (ag_out 1 call t124 n) 7 [some (.inr l0), some (.inl l1), some (.inl l2), some (.inl l3), some (.inl l4)] [] h) = g124 call n := by
  intro n
  induction n with
  | zero => rfl
  | succ n ih =>
    funext l0 l1 l2 l3 l4 h
    show ag_in 1 call (ag_out 1 call t124 n) t124 7 [some (.inr l0), some (.inl l1), some (.inl l2), some (.inl l3), some (.inl l4)] [] h = f124_7 call (g124 call n) l0 l1 l2 l3 l4 h
    rw [i124_7, ih]
set_option maxRecDepth 100000 in
set_option maxHeartbeats 4000000 in
theorem r124 (d : Nat) (l0 : Option Nat) (l1 : Int32) (l2 : Int32) (l3 : Int32) (h : ag_H) : ag_run gT (d + 1) 124 [.inr l0, .inl l1, .inl l2, .inl l3] h = f124 (ag_run gT d) (g124 (ag_run gT d) 3999) l0 l1 l2 l3 h := by
  show ag_out 1 (ag_run gT d) t124 4000 0 [some (.inr l0), some (.inl l1), some (.inl l2), some (.inl l3), none] [] h = _
  rw [ag_out_top, i124, o124]
def f125_192 (call : Nat → List ag_V → ag_H → ag_R)  (l0 : Option Nat) (h : ag_H) : ag_R :=
  ag_at h l0 11 fun a1 _ => ag_bV (call 120 [.inr (some a1)] h) fun h2 =>
  some (.inl none, h2)
def f125_67 (call : Nat → List ag_V → ag_H → ag_R)  (l0 : Option Nat) (l1 : Int32) (l2 : Int32) (l3 : Int32) (l4 : Int32) (h : ag_H) : ag_R :=
  if (ag_lit 0) ≤ l3 then
    ag_gR h l0 11 7 fun x1 =>
    ag_xI h x1 102 l4 fun x2 =>
    if x2 = (ag_lit 0) then
      ag_at h l0 11 fun a17 _ => ag_bV (call 118 [.inr (some a17), .inl (ag_lit8 110)] h) fun h18 =>
      f125_192 call l0 h18
    else
      ag_gR h l0 11 8 fun x3 =>
      ag_xI h x3 102 l4 fun x4 =>
      if x4 = (ag_lit 0) then
        ag_at h l0 11 fun a15 _ => ag_bV (call 118 [.inr (some a15), .inl (ag_lit8 100)] h) fun h16 =>
        f125_192 call l0 h16
      else
        ag_at h l0 11 fun a5 _ => ag_bI (call 124 [.inr (some a5), .inl l1, .inl l4, .inl l3] h) fun x7 h6 =>
        if (ag_lit 0) ≤ x7 then
          ag_gR h6 l0 11 14 fun x8 =>
          ag_gI h6 l0 11 40 fun x9 =>
          ag_dv (ag_lit16 300) <|
          ag_xP h6 x8 100 (((ag_lit16 200) * l1) + x9) (.inl ((x7 - x7 / (ag_lit16 300) * (ag_lit16 300)) + (ag_lit 1))) fun h10 =>
          ag_at h10 l0 11 fun a11 _ => ag_bV (call 119 [.inr (some a11), .inl x7] h10) fun h12 =>
          f125_192 call l0 h12
        else
          ag_at h6 l0 11 fun a13 _ => ag_bV (call 118 [.inr (some a13), .inl (ag_lit8 110)] h6) fun h14 =>
          f125_192 call l0 h14
  else
    ag_gR h l0 11 14 fun x19 =>
    ag_gI h l0 11 40 fun x20 =>
    ag_gR h l0 11 14 fun x21 =>
    ag_xI h x21 100 (((ag_lit16 200) * l1) + l2) fun x22 =>
    ag_xP h x19 100 (((ag_lit16 200) * l1) + x20) (.inl x22) fun h23 =>
    f125_192 call l0 h23
def f125_44 (call : Nat → List ag_V → ag_H → ag_R)  (l0 : Option Nat) (l1 : Int32) (l2 : Int32) (l3 : Int32) (l4 : Int32) (s0 : Option Nat) (s1 : Int32) (h : ag_H) : ag_R :=
  ag_at h s0 11 fun a1 _ => ag_bV (call 115 [.inr (some a1), .inl s1, .inl (ag_lit 2)] h) fun h2 =>
  if l3 < (ag_lit 0) then
    f125_67 call l0 l1 l2 l3 l4 h2
  else
    ag_at h2 l0 11 fun a3 _ => ag_bV (call 115 [.inr (some a3), .inl (ag_lit 1), .inl (ag_lit 2)] h2) fun h4 =>
    ag_at h4 l0 11 fun a5 _ => ag_bV (call 115 [.inr (some a5), .inl ((ag_lit8 97) + l3), .inl (ag_lit 1)] h4) fun h6 =>
    f125_67 call l0 l1 l2 l3 l4 h6
/-- NameSpacesModel.walkOne(III)V -/
def f125 (call : Nat → List ag_V → ag_H → ag_R)  (l0 : Option Nat) (l1 : Int32) (l2 : Int32) (l3 : Int32) (h : ag_H) : ag_R :=
  ag_at h l0 11 fun a1 _ => ag_bI (call 122 [.inr (some a1), .inl l1] h) fun x3 h2 =>
  ag_pF h2 l0 11 40 (.inl x3) fun h4 =>
  ag_at h4 l0 11 fun a5 _ => ag_bI (call 121 [.inr (some a5), .inl l1, .inl l2] h4) fun x7 h6 =>
  ag_at h6 l0 11 fun a8 _ => ag_bV (call 117 [.inr (some a8), .inl l1, .inl (ag_lit8 110), .inl l2] h6) fun h9 =>
  ag_gI h9 l0 11 40 fun x10 =>
  ag_at h9 l0 11 fun a11 _ => ag_bV (call 115 [.inr (some a11), .inl x10, .inl (ag_lit 4)] h9) fun h12 =>
  if (ag_lit 0) ≤ l3 then
    f125_44 call l0 l1 l2 l3 x7 l0 (ag_lit 1) h12
  else
    f125_44 call l0 l1 l2 l3 x7 l0 (ag_lit 0) h12
set_option maxRecDepth 100000 in
set_option maxHeartbeats 4000000 in
theorem i125 (call : Nat → List ag_V → ag_H → ag_R) (B : ag_K4) (l0 : Option Nat) (l1 : Int32) (l2 : Int32) (l3 : Int32) (h : ag_H) : ag_in 0 call B t125 0 [some (.inr l0), some (.inl l1), some (.inl l2), some (.inl l3), none, none] [] h = f125 call  l0 l1 l2 l3 h := by
  rfl
set_option maxRecDepth 100000 in
set_option maxHeartbeats 4000000 in
theorem r125 (d : Nat) (l0 : Option Nat) (l1 : Int32) (l2 : Int32) (l3 : Int32) (h : ag_H) : ag_run gT (d + 1) 125 [.inr l0, .inl l1, .inl l2, .inl l3] h = f125 (ag_run gT d)  l0 l1 l2 l3 h := by
  show ag_out 0 (ag_run gT d) t125 4000 0 [some (.inr l0), some (.inl l1), some (.inl l2), some (.inl l3), none, none] [] h = _
  rw [ag_out_top, i125]
def f126_70 (call : Nat → List ag_V → ag_H → ag_R)  (l0 : Option Nat) (h : ag_H) : ag_R :=
  ag_at h l0 11 fun a1 _ => ag_bV (call 120 [.inr (some a1)] h) fun h2 =>
  some (.inl none, h2)
def f126_64 (call : Nat → List ag_V → ag_H → ag_R)  (l0 : Option Nat) (l4 : Int32) (h : ag_H) : ag_R :=
  ag_at h l0 11 fun a1 _ => ag_bV (call 119 [.inr (some a1), .inl l4] h) fun h2 =>
  f126_70 call l0 h2
/-- NameSpacesModel.openOne(III)V -/
def f126 (call : Nat → List ag_V → ag_H → ag_R)  (l0 : Option Nat) (l1 : Int32) (l2 : Int32) (l3 : Int32) (h : ag_H) : ag_R :=
  ag_at h l0 11 fun a1 _ => ag_bI (call 121 [.inr (some a1), .inl l1, .inl l2] h) fun x3 h2 =>
  ag_at h2 l0 11 fun a4 _ => ag_bV (call 117 [.inr (some a4), .inl l1, .inl (ag_lit8 112), .inl l2] h2) fun h5 =>
  ag_at h5 l0 11 fun a6 _ => ag_bV (call 115 [.inr (some a6), .inl l3, .inl (ag_lit 1)] h5) fun h7 =>
  ag_gR h7 l0 11 7 fun x8 =>
  ag_xI h7 x8 102 x3 fun x9 =>
  if x9 = (ag_lit 0) then
    ag_at h7 l0 11 fun a14 _ => ag_bV (call 118 [.inr (some a14), .inl (ag_lit8 110)] h7) fun h15 =>
    f126_70 call l0 h15
  else
    ag_gR h7 l0 11 8 fun x10 =>
    ag_xI h7 x10 102 x3 fun x11 =>
    if x11 = (ag_lit 0) then
      f126_64 call l0 x3 h7
    else
      if l3 = (ag_lit 0) then
        f126_64 call l0 x3 h7
      else
        ag_at h7 l0 11 fun a12 _ => ag_bV (call 118 [.inr (some a12), .inl (ag_lit8 112)] h7) fun h13 =>
        f126_70 call l0 h13
set_option maxRecDepth 100000 in
set_option maxHeartbeats 4000000 in
theorem i126 (call : Nat → List ag_V → ag_H → ag_R) (B : ag_K4) (l0 : Option Nat) (l1 : Int32) (l2 : Int32) (l3 : Int32) (h : ag_H) : ag_in 0 call B t126 0 [some (.inr l0), some (.inl l1), some (.inl l2), some (.inl l3), none] [] h = f126 call  l0 l1 l2 l3 h := by
  rfl
set_option maxRecDepth 100000 in
set_option maxHeartbeats 4000000 in
theorem r126 (d : Nat) (l0 : Option Nat) (l1 : Int32) (l2 : Int32) (l3 : Int32) (h : ag_H) : ag_run gT (d + 1) 126 [.inr l0, .inl l1, .inl l2, .inl l3] h = f126 (ag_run gT d)  l0 l1 l2 l3 h := by
  show ag_out 0 (ag_run gT d) t126 4000 0 [some (.inr l0), some (.inl l1), some (.inl l2), some (.inl l3), none] [] h = _
  rw [ag_out_top, i126]
def f127_40 (call : Nat → List ag_V → ag_H → ag_R) (b8 : Option Nat → Int32 → Int32 → Int32 → ag_H → ag_R) (l0 : Option Nat) (l1 : Int32) (l3 : Int32) (s0 : Int32) (h : ag_H) : ag_R :=
  b8 l0 l1 s0 (l3 + ag_lit 1) h
def f127_8 (call : Nat → List ag_V → ag_H → ag_R) (b8 : Option Nat → Int32 → Int32 → Int32 → ag_H → ag_R) (l0 : Option Nat) (l1 : Int32) (l2 : Int32) (l3 : Int32) (h : ag_H) : ag_R :=
  ag_gR h l0 11 6 fun x1 =>
  ag_xI h x1 100 l1 fun x2 =>
  if (((ag_lit16 300) * l1) + x2) ≤ l3 then
    some (.inl (some (.inl l2)), h)
  else
    ag_gR h l0 11 7 fun x3 =>
    ag_xI h x3 102 l3 fun x4 =>
    if x4 = (ag_lit 0) then
      f127_40 call b8 l0 l1 l3 l2 h
    else
      f127_40 call b8 l0 l1 l3 (l2 + (ag_lit 1)) h
/-- NameSpacesModel.files(I)I -/
def f127 (call : Nat → List ag_V → ag_H → ag_R) (b8 : Option Nat → Int32 → Int32 → Int32 → ag_H → ag_R) (l0 : Option Nat) (l1 : Int32) (h : ag_H) : ag_R :=
  f127_8 call b8 l0 l1 (ag_lit 0) ((ag_lit16 300) * l1) h
def g127 (call : Nat → List ag_V → ag_H → ag_R) : Nat → Option Nat → Int32 → Int32 → Int32 → ag_H → ag_R
  | 0 => fun _ _ _ _ _ => none
  | n + 1 => f127_8 call (g127 call n)
set_option maxRecDepth 100000 in
set_option maxHeartbeats 4000000 in
theorem i127_8 (call : Nat → List ag_V → ag_H → ag_R) (B : ag_K4) (l0 : Option Nat) (l1 : Int32) (l2 : Int32) (l3 : Int32) (h : ag_H) : ag_in 1 call B t127 8 [some (.inr l0), some (.inl l1), some (.inl l2), some (.inl l3)] [] h = f127_8 call (fun (l0 : Option Nat) (l1 : Int32) (l2 : Int32) (l3 : Int32) (h : ag_H) => B 8 [some (.inr l0), some (.inl l1), some (.inl l2), some (.inl l3)] [] h) l0 l1 l2 l3 h := by
  rfl
set_option maxRecDepth 100000 in
set_option maxHeartbeats 4000000 in
theorem i127 (call : Nat → List ag_V → ag_H → ag_R) (B : ag_K4) (l0 : Option Nat) (l1 : Int32) (h : ag_H) : ag_in 1 call B t127 0 [some (.inr l0), some (.inl l1), none, none] [] h = f127 call (fun (l0 : Option Nat) (l1 : Int32) (l2 : Int32) (l3 : Int32) (h : ag_H) => B 8 [some (.inr l0), some (.inl l1), some (.inl l2), some (.inl l3)] [] h) l0 l1 h := by
  rfl
set_option maxRecDepth 100000 in
set_option maxHeartbeats 4000000 in
theorem o127 (call : Nat → List ag_V → ag_H → ag_R) : ∀ n : Nat, (fun (l0 : Option Nat) (l1 : Int32) (l2 : Int32) (l3 : Int32) (h : ag_H) => (ag_out 1 call t127 n) 8 [some (.inr l0), some (.inl l1), some (.inl l2), some (.inl l3)] [] h) = g127 call n := by
  intro n
  induction n with
  | zero => rfl
  | succ n ih =>
    funext l0 l1 l2 l3 h
    show ag_in 1 call (ag_out 1 call t127 n) t127 8 [some (.inr l0), some (.inl l1), some (.inl l2), some (.inl l3)] [] h = f127_8 call (g127 call n) l0 l1 l2 l3 h
    rw [i127_8, ih]
set_option maxRecDepth 100000 in
set_option maxHeartbeats 4000000 in
theorem r127 (d : Nat) (l0 : Option Nat) (l1 : Int32) (h : ag_H) : ag_run gT (d + 1) 127 [.inr l0, .inl l1] h = f127 (ag_run gT d) (g127 (ag_run gT d) 3999) l0 l1 h := by
  show ag_out 1 (ag_run gT d) t127 4000 0 [some (.inr l0), some (.inl l1), none, none] [] h = _
  rw [ag_out_top, i127, o127]
def f128_207 (call : Nat → List ag_V → ag_H → ag_R)  (l0 : Option Nat) (h : ag_H) : ag_R :=
  ag_at h l0 11 fun a1 _ => ag_bV (call 120 [.inr (some a1)] h) fun h2 =>
  some (.inl none, h2)
def f128_42 (call : Nat → List ag_V → ag_H → ag_R)  (l0 : Option Nat) (l1 : Int32) (l2 : Int32) (l3 : Int32) (l4 : Int32) (l5 : Int32) (s0 : Option Nat) (s1 : Int32) (h : ag_H) : ag_R :=
  ag_at h s0 11 fun a1 _ => ag_bV (call 115 [.inr (some a1), .inl s1, .inl (ag_lit 1)] h) fun h2 =>
  ag_gR h2 l0 11 7 fun x3 =>
  ag_xI h2 x3 102 l5 fun x4 =>
  if x4 = (ag_lit 0) then
    ag_at h2 l0 11 fun a36 _ => ag_bV (call 118 [.inr (some a36), .inl (ag_lit8 110)] h2) fun h37 =>
    f128_207 call l0 h37
  else
    ag_gR h2 l0 11 8 fun x5 =>
    ag_xI h2 x5 102 l5 fun x6 =>
    if x6 = (ag_lit 0) then
      ag_at h2 l0 11 fun a34 _ => ag_bV (call 118 [.inr (some a34), .inl (ag_lit8 100)] h2) fun h35 =>
      f128_207 call l0 h35
    else
      ag_at h2 l0 11 fun a7 _ => ag_bI (call 124 [.inr (some a7), .inl l1, .inl l5, .inl l3] h2) fun x9 h8 =>
      if x9 < (ag_lit 0) then
        ag_at h8 l0 11 fun a10 _ => ag_bI (call 127 [.inr (some a10), .inl l1] h8) fun x12 h11 =>
        if x12 = (ag_lit8 20) then
          ag_at h11 l0 11 fun a30 _ => ag_bV (call 118 [.inr (some a30), .inl (ag_lit8 102)] h11) fun h31 =>
          f128_207 call l0 h31
        else
          ag_gR h11 l0 11 6 fun x13 =>
          ag_xI h11 x13 100 l1 fun x14 =>
          ag_gR h11 l0 11 6 fun x15 =>
          ag_xI h11 x15 100 l1 fun x16 =>
          ag_xP h11 x15 100 l1 (.inl (x16 + (ag_lit 1))) fun h17 =>
          ag_gR h17 l0 11 7 fun x18 =>
          ag_isB (ag_lit 1) <| ag_xP h17 x18 102 (((ag_lit16 300) * l1) + x14) (.inl (ag_lit 1)) fun h19 =>
          ag_gR h19 l0 11 8 fun x20 =>
          ag_isB l4 <| ag_xP h19 x20 102 (((ag_lit16 300) * l1) + x14) (.inl l4) fun h21 =>
          ag_gR h21 l0 11 9 fun x22 =>
          ag_xP h21 x22 100 (((ag_lit16 300) * l1) + x14) (.inl l3) fun h23 =>
          ag_gR h23 l0 11 10 fun x24 =>
          ag_xP h23 x24 100 (((ag_lit16 300) * l1) + x14) (.inl l5) fun h25 =>
          ag_gR h25 l0 11 14 fun x26 =>
          ag_dv (ag_lit16 300) <|
          ag_xP h25 x26 100 (((ag_lit16 200) * l1) + l2) (.inl (((((ag_lit16 300) * l1) + x14) - (((ag_lit16 300) * l1) + x14) / (ag_lit16 300) * (ag_lit16 300)) + (ag_lit 1))) fun h27 =>
          ag_at h27 l0 11 fun a28 _ => ag_bV (call 119 [.inr (some a28), .inl (((ag_lit16 300) * l1) + x14)] h27) fun h29 =>
          f128_207 call l0 h29
      else
        ag_at h8 l0 11 fun a32 _ => ag_bV (call 118 [.inr (some a32), .inl (ag_lit8 120)] h8) fun h33 =>
        f128_207 call l0 h33
/-- NameSpacesModel.createOne(IIIZ)V -/
def f128 (call : Nat → List ag_V → ag_H → ag_R)  (l0 : Option Nat) (l1 : Int32) (l2 : Int32) (l3 : Int32) (l4 : Int32) (h : ag_H) : ag_R :=
  ag_at h l0 11 fun a1 _ => ag_bI (call 121 [.inr (some a1), .inl l1, .inl l2] h) fun x3 h2 =>
  ag_at h2 l0 11 fun a4 _ => ag_bV (call 117 [.inr (some a4), .inl l1, .inl (ag_lit8 114), .inl l2] h2) fun h5 =>
  ag_at h5 l0 11 fun a6 _ => ag_bV (call 115 [.inr (some a6), .inl (ag_lit 1), .inl (ag_lit 2)] h5) fun h7 =>
  ag_at h7 l0 11 fun a8 _ => ag_bV (call 115 [.inr (some a8), .inl ((ag_lit8 97) + l3), .inl (ag_lit 1)] h7) fun h9 =>
  if l4 = (ag_lit 0) then
    f128_42 call l0 l1 l2 l3 l4 x3 l0 (ag_lit 0) h9
  else
    f128_42 call l0 l1 l2 l3 l4 x3 l0 (ag_lit 1) h9
set_option maxRecDepth 100000 in
set_option maxHeartbeats 4000000 in
theorem i128 (call : Nat → List ag_V → ag_H → ag_R) (B : ag_K4) (l0 : Option Nat) (l1 : Int32) (l2 : Int32) (l3 : Int32) (l4 : Int32) (h : ag_H) : ag_in 0 call B t128 0 [some (.inr l0), some (.inl l1), some (.inl l2), some (.inl l3), some (.inl l4), none, none] [] h = f128 call  l0 l1 l2 l3 l4 h := by
  rfl
set_option maxRecDepth 100000 in
set_option maxHeartbeats 4000000 in
theorem r128 (d : Nat) (l0 : Option Nat) (l1 : Int32) (l2 : Int32) (l3 : Int32) (l4 : Int32) (h : ag_H) : ag_run gT (d + 1) 128 [.inr l0, .inl l1, .inl l2, .inl l3, .inl l4] h = f128 (ag_run gT d)  l0 l1 l2 l3 l4 h := by
  show ag_out 0 (ag_run gT d) t128 4000 0 [some (.inr l0), some (.inl l1), some (.inl l2), some (.inl l3), some (.inl l4), none, none] [] h = _
  rw [ag_out_top, i128]
def f129_67 (call : Nat → List ag_V → ag_H → ag_R) (b10 : Option Nat → Int32 → Int32 → Int32 → Int32 → ag_H → ag_R) (l0 : Option Nat) (l1 : Int32) (l2 : Int32) (l4 : Int32) (l5 : Int32) (h : ag_H) : ag_R :=
  b10 l0 l1 l2 l4 (l5 + ag_lit 1) h
def f129_10 (call : Nat → List ag_V → ag_H → ag_R) (b10 : Option Nat → Int32 → Int32 → Int32 → Int32 → ag_H → ag_R) (l0 : Option Nat) (l1 : Int32) (l2 : Int32) (l4 : Int32) (l5 : Int32) (h : ag_H) : ag_R :=
  ag_gR h l0 11 6 fun x1 =>
  ag_xI h x1 100 l1 fun x2 =>
  if (((ag_lit16 300) * l1) + x2) ≤ l5 then
    some (.inl (some (.inl (ag_lit (-1)))), h)
  else
    ag_gR h l0 11 7 fun x3 =>
    ag_xI h x3 102 l5 fun x4 =>
    if x4 = (ag_lit 0) then
      f129_67 call b10 l0 l1 l2 l4 l5 h
    else
      ag_gR h l0 11 10 fun x5 =>
      ag_xI h x5 100 l5 fun x6 =>
      if x6 = l2 then
        if l4 = (ag_lit 0) then
          ag_gR h l0 11 9 fun x7 =>
          ag_xI h x7 100 l5 fun x8 =>
          some (.inl (some (.inl ((ag_lit8 97) + x8))), h)
        else
          f129_67 call b10 l0 l1 l2 (l4 + ag_lit (-1)) l5 h
      else
        f129_67 call b10 l0 l1 l2 l4 l5 h
/-- NameSpacesModel.listed(III)I -/
def f129 (call : Nat → List ag_V → ag_H → ag_R) (b10 : Option Nat → Int32 → Int32 → Int32 → Int32 → ag_H → ag_R) (l0 : Option Nat) (l1 : Int32) (l2 : Int32) (l3 : Int32) (h : ag_H) : ag_R :=
  f129_10 call b10 l0 l1 l2 l3 ((ag_lit16 300) * l1) h
def g129 (call : Nat → List ag_V → ag_H → ag_R) : Nat → Option Nat → Int32 → Int32 → Int32 → Int32 → ag_H → ag_R
  | 0 => fun _ _ _ _ _ _ => none
  | n + 1 => f129_10 call (g129 call n)
set_option maxRecDepth 100000 in
set_option maxHeartbeats 4000000 in
theorem i129_10 (call : Nat → List ag_V → ag_H → ag_R) (B : ag_K4) (l0 : Option Nat) (l1 : Int32) (l2 : Int32) (l4 : Int32) (l5 : Int32) (h : ag_H) : ag_in 1 call B t129 10 [some (.inr l0), some (.inl l1), some (.inl l2), none, some (.inl l4), some (.inl l5)] [] h = f129_10 call (fun (l0 : Option Nat) (l1 : Int32) (l2 : Int32) (l4 : Int32) (l5 : Int32) (h : ag_H) => B 10 [some (.inr l0), some (.inl l1), some (.inl l2), none, some (.inl l4), some (.inl l5)] [] h) l0 l1 l2 l4 l5 h := by
  rfl
set_option maxRecDepth 100000 in
set_option maxHeartbeats 4000000 in
theorem i129 (call : Nat → List ag_V → ag_H → ag_R) (B : ag_K4) (l0 : Option Nat) (l1 : Int32) (l2 : Int32) (l3 : Int32) (h : ag_H) : ag_in 1 call B t129 0 [some (.inr l0), some (.inl l1), some (.inl l2), some (.inl l3), none, none] [] h = f129 call (fun (l0 : Option Nat) (l1 : Int32) (l2 : Int32) (l4 : Int32) (l5 : Int32) (h : ag_H) => B 10 [some (.inr l0), some (.inl l1), some (.inl l2), none, some (.inl l4), some (.inl l5)] [] h) l0 l1 l2 l3 h := by
  rfl
set_option maxRecDepth 100000 in
set_option maxHeartbeats 4000000 in
theorem o129 (call : Nat → List ag_V → ag_H → ag_R) : ∀ n : Nat, (fun (l0 : Option Nat) (l1 : Int32) (l2 : Int32) (l4 : Int32) (l5 : Int32) (h : ag_H) => (ag_out 1 call t129 n) 10 [some (.inr l0), some (.inl l1), some (.inl l2), none, some (.inl l4), some (.inl l5)] [] h) = g129 call n := by
  intro n
  induction n with
  | zero => rfl
  | succ n ih =>
    funext l0 l1 l2 l4 l5 h
    show ag_in 1 call (ag_out 1 call t129 n) t129 10 [some (.inr l0), some (.inl l1), some (.inl l2), none, some (.inl l4), some (.inl l5)] [] h = f129_10 call (g129 call n) l0 l1 l2 l4 l5 h
    rw [i129_10, ih]
set_option maxRecDepth 100000 in
set_option maxHeartbeats 4000000 in
theorem r129 (d : Nat) (l0 : Option Nat) (l1 : Int32) (l2 : Int32) (l3 : Int32) (h : ag_H) : ag_run gT (d + 1) 129 [.inr l0, .inl l1, .inl l2, .inl l3] h = f129 (ag_run gT d) (g129 (ag_run gT d) 3999) l0 l1 l2 l3 h := by
  show ag_out 1 (ag_run gT d) t129 4000 0 [some (.inr l0), some (.inl l1), some (.inl l2), some (.inl l3), none, none] [] h = _
  rw [ag_out_top, i129, o129]
def f130_131 (call : Nat → List ag_V → ag_H → ag_R)  (l0 : Option Nat) (h : ag_H) : ag_R :=
  ag_at h l0 11 fun a1 _ => ag_bV (call 120 [.inr (some a1)] h) fun h2 =>
  some (.inl none, h2)
def f130_111 (call : Nat → List ag_V → ag_H → ag_R)  (l0 : Option Nat) (s0 : Option Nat) (s1 : Int32) (h : ag_H) : ag_R :=
  ag_at h s0 11 fun a1 _ => ag_bV (call 116 [.inr (some a1), .inl s1, .inl (ag_lit 2)] h) fun h2 =>
  ag_gI h2 l0 11 21 fun x3 =>
  if x3 < (ag_lit 0) then
    f130_131 call l0 h2
  else
    ag_gI h2 l0 11 21 fun x4 =>
    ag_at h2 l0 11 fun a5 _ => ag_bV (call 116 [.inr (some a5), .inl x4, .inl (ag_lit 1)] h2) fun h6 =>
    f130_131 call l0 h6
def f130_95 (call : Nat → List ag_V → ag_H → ag_R)  (l0 : Option Nat) (s0 : Option Nat) (s1 : Int32) (h : ag_H) : ag_R :=
  ag_pF h s0 11 21 (.inl s1) fun h1 =>
  ag_gI h1 l0 11 21 fun x2 =>
  if (ag_lit 0) ≤ x2 then
    f130_111 call l0 l0 (ag_lit 1) h1
  else
    f130_111 call l0 l0 (ag_lit 0) h1
/-- NameSpacesModel.readOne(III)V -/
def f130 (call : Nat → List ag_V → ag_H → ag_R)  (l0 : Option Nat) (l1 : Int32) (l2 : Int32) (l3 : Int32) (h : ag_H) : ag_R :=
  ag_at h l0 11 fun a1 _ => ag_bI (call 121 [.inr (some a1), .inl l1, .inl l2] h) fun x3 h2 =>
  ag_at h2 l0 11 fun a4 _ => ag_bV (call 117 [.inr (some a4), .inl l1, .inl (ag_lit8 116), .inl l2] h2) fun h5 =>
  ag_at h5 l0 11 fun a6 _ => ag_bV (call 115 [.inr (some a6), .inl l3, .inl (ag_lit 4)] h5) fun h7 =>
  ag_pF h7 l0 11 21 (.inl (ag_lit (-1))) fun h8 =>
  ag_gR h8 l0 11 7 fun x9 =>
  ag_xI h8 x9 102 x3 fun x10 =>
  if x10 = (ag_lit 0) then
    ag_at h8 l0 11 fun a20 _ => ag_bV (call 118 [.inr (some a20), .inl (ag_lit8 110)] h8) fun h21 =>
    f130_131 call l0 h21
  else
    ag_gR h8 l0 11 8 fun x11 =>
    ag_xI h8 x11 102 x3 fun x12 =>
    if x12 = (ag_lit 0) then
      ag_gR h8 l0 11 11 fun x13 =>
      ag_xI h8 x13 100 x3 fun x14 =>
      if x14 ≤ l3 then
        f130_95 call l0 l0 (ag_lit (-1)) h8
      else
        ag_gR h8 l0 11 13 fun x15 =>
        ag_xI h8 x15 100 (((ag_lit8 8) * x3) + l3) fun x16 =>
        f130_95 call l0 l0 x16 h8
    else
      ag_at h8 l0 11 fun a17 _ => ag_bI (call 129 [.inr (some a17), .inl l1, .inl x3, .inl l3] h8) fun x19 h18 =>
      f130_95 call l0 l0 x19 h18
set_option maxRecDepth 100000 in
set_option maxHeartbeats 4000000 in
theorem i130 (call : Nat → List ag_V → ag_H → ag_R) (B : ag_K4) (l0 : Option Nat) (l1 : Int32) (l2 : Int32) (l3 : Int32) (h : ag_H) : ag_in 0 call B t130 0 [some (.inr l0), some (.inl l1), some (.inl l2), some (.inl l3), none] [] h = f130 call  l0 l1 l2 l3 h := by
  rfl
set_option maxRecDepth 100000 in
set_option maxHeartbeats 4000000 in
theorem r130 (d : Nat) (l0 : Option Nat) (l1 : Int32) (l2 : Int32) (l3 : Int32) (h : ag_H) : ag_run gT (d + 1) 130 [.inr l0, .inl l1, .inl l2, .inl l3] h = f130 (ag_run gT d)  l0 l1 l2 l3 h := by
  show ag_out 0 (ag_run gT d) t130 4000 0 [some (.inr l0), some (.inl l1), some (.inl l2), some (.inl l3), none] [] h = _
  rw [ag_out_top, i130]
def f131_139 (call : Nat → List ag_V → ag_H → ag_R)  (l0 : Option Nat) (h : ag_H) : ag_R :=
  ag_at h l0 11 fun a1 _ => ag_bV (call 120 [.inr (some a1)] h) fun h2 =>
  some (.inl none, h2)
def f131_107 (call : Nat → List ag_V → ag_H → ag_R)  (l0 : Option Nat) (l5 : Int32) (s0 : Option Nat) (s1 : Int32) (s2 : Int32) (h : ag_H) : ag_R :=
  ag_xP h s0 100 s1 (.inl s2) fun h1 =>
  ag_gR h1 l0 11 12 fun x2 =>
  ag_xI h1 x2 100 l5 fun x3 =>
  ag_xP h1 x2 100 l5 (.inl (x3 + (ag_lit 1))) fun h4 =>
  ag_gR h4 l0 11 11 fun x5 =>
  ag_xI h4 x5 100 l5 fun x6 =>
  ag_pF h4 l0 11 21 (.inl x6) fun h7 =>
  ag_gI h7 l0 11 21 fun x8 =>
  ag_at h7 l0 11 fun a9 _ => ag_bV (call 116 [.inr (some a9), .inl x8, .inl (ag_lit 4)] h7) fun h10 =>
  f131_139 call l0 h10
/-- NameSpacesModel.writeOne(IIII)V -/
def f131 (call : Nat → List ag_V → ag_H → ag_R)  (l0 : Option Nat) (l1 : Int32) (l2 : Int32) (l3 : Int32) (l4 : Int32) (h : ag_H) : ag_R :=
  ag_at h l0 11 fun a1 _ => ag_bI (call 121 [.inr (some a1), .inl l1, .inl l2] h) fun x3 h2 =>
  ag_at h2 l0 11 fun a4 _ => ag_bV (call 117 [.inr (some a4), .inl l1, .inl (ag_lit8 118), .inl l2] h2) fun h5 =>
  ag_at h5 l0 11 fun a6 _ => ag_bV (call 115 [.inr (some a6), .inl l3, .inl (ag_lit 4)] h5) fun h7 =>
  ag_at h7 l0 11 fun a8 _ => ag_bV (call 115 [.inr (some a8), .inl l4, .inl (ag_lit 1)] h7) fun h9 =>
  ag_gR h9 l0 11 7 fun x10 =>
  ag_xI h9 x10 102 x3 fun x11 =>
  if x11 = (ag_lit 0) then
    ag_at h9 l0 11 fun a21 _ => ag_bV (call 118 [.inr (some a21), .inl (ag_lit8 110)] h9) fun h22 =>
    f131_139 call l0 h22
  else
    if l3 = (ag_lit8 8) then
      ag_at h9 l0 11 fun a19 _ => ag_bV (call 118 [.inr (some a19), .inl (ag_lit8 102)] h9) fun h20 =>
      f131_139 call l0 h20
    else
      ag_gR h9 l0 11 13 fun x12 =>
      ag_xP h9 x12 100 (((ag_lit8 8) * x3) + l3) (.inl l4) fun h13 =>
      ag_gR h13 l0 11 11 fun x14 =>
      ag_gR h13 l0 11 11 fun x15 =>
      ag_xI h13 x15 100 x3 fun x16 =>
      if l3 = x16 then
        f131_107 call l0 x3 x14 x3 (l3 + (ag_lit 1)) h13
      else
        ag_gR h13 l0 11 11 fun x17 =>
        ag_xI h13 x17 100 x3 fun x18 =>
        f131_107 call l0 x3 x14 x3 x18 h13
set_option maxRecDepth 100000 in
set_option maxHeartbeats 4000000 in
theorem i131 (call : Nat → List ag_V → ag_H → ag_R) (B : ag_K4) (l0 : Option Nat) (l1 : Int32) (l2 : Int32) (l3 : Int32) (l4 : Int32) (h : ag_H) : ag_in 0 call B t131 0 [some (.inr l0), some (.inl l1), some (.inl l2), some (.inl l3), some (.inl l4), none] [] h = f131 call  l0 l1 l2 l3 l4 h := by
  rfl
set_option maxRecDepth 100000 in
set_option maxHeartbeats 4000000 in
theorem r131 (d : Nat) (l0 : Option Nat) (l1 : Int32) (l2 : Int32) (l3 : Int32) (l4 : Int32) (h : ag_H) : ag_run gT (d + 1) 131 [.inr l0, .inl l1, .inl l2, .inl l3, .inl l4] h = f131 (ag_run gT d)  l0 l1 l2 l3 l4 h := by
  show ag_out 0 (ag_run gT d) t131 4000 0 [some (.inr l0), some (.inl l1), some (.inl l2), some (.inl l3), some (.inl l4), none] [] h = _
  rw [ag_out_top, i131]
def f132_9 (call : Nat → List ag_V → ag_H → ag_R)  (l0 : Option Nat) (l1 : Int32) (l2 : Int32) (h : ag_H) : ag_R :=
  ag_at h l0 11 fun a1 _ => ag_bV (call 117 [.inr (some a1), .inl l1, .inl (ag_lit8 120), .inl l2] h) fun h2 =>
  ag_gR h2 l0 11 14 fun x3 =>
  ag_xP h2 x3 100 (((ag_lit16 200) * l1) + l2) (.inl (ag_lit 0)) fun h4 =>
  ag_at h4 l0 11 fun a5 _ => ag_bV (call 120 [.inr (some a5)] h4) fun h6 =>
  some (.inl none, h6)
/-- NameSpacesModel.clunk(II)V -/
def f132 (call : Nat → List ag_V → ag_H → ag_R)  (l0 : Option Nat) (l1 : Int32) (l2 : Int32) (h : ag_H) : ag_R :=
  if l1 = (ag_lit 0) then
    if l2 = (ag_lit 0) then
      some (.inl none, h)
    else
      f132_9 call l0 l1 l2 h
  else
    f132_9 call l0 l1 l2 h
set_option maxRecDepth 100000 in
set_option maxHeartbeats 4000000 in
theorem i132 (call : Nat → List ag_V → ag_H → ag_R) (B : ag_K4) (l0 : Option Nat) (l1 : Int32) (l2 : Int32) (h : ag_H) : ag_in 0 call B t132 0 [some (.inr l0), some (.inl l1), some (.inl l2)] [] h = f132 call  l0 l1 l2 h := by
  rfl
set_option maxRecDepth 100000 in
set_option maxHeartbeats 4000000 in
theorem r132 (d : Nat) (l0 : Option Nat) (l1 : Int32) (l2 : Int32) (h : ag_H) : ag_run gT (d + 1) 132 [.inr l0, .inl l1, .inl l2] h = f132 (ag_run gT d)  l0 l1 l2 h := by
  show ag_out 0 (ag_run gT d) t132 4000 0 [some (.inr l0), some (.inl l1), some (.inl l2)] [] h = _
  rw [ag_out_top, i132]
def f133_77 (call : Nat → List ag_V → ag_H → ag_R)  (l0 : Option Nat) (l1 : Int32) (l2 : Int32) (h : ag_H) : ag_R :=
  ag_gR h l0 11 14 fun x1 =>
  ag_xP h x1 100 (((ag_lit16 200) * l1) + l2) (.inl (ag_lit 0)) fun h2 =>
  ag_at h2 l0 11 fun a3 _ => ag_bV (call 120 [.inr (some a3)] h2) fun h4 =>
  some (.inl none, h4)
def f133_70 (call : Nat → List ag_V → ag_H → ag_R)  (l0 : Option Nat) (l1 : Int32) (l2 : Int32) (l3 : Int32) (h : ag_H) : ag_R :=
  ag_gR h l0 11 7 fun x1 =>
  ag_isB (ag_lit 0) <| ag_xP h x1 102 l3 (.inl (ag_lit 0)) fun h2 =>
  f133_77 call l0 l1 l2 h2
def f133_61 (call : Nat → List ag_V → ag_H → ag_R)  (l0 : Option Nat) (l1 : Int32) (l2 : Int32) (h : ag_H) : ag_R :=
  ag_at h l0 11 fun a1 _ => ag_bV (call 118 [.inr (some a1), .inl (ag_lit8 112)] h) fun h2 =>
  f133_77 call l0 l1 l2 h2
/-- NameSpacesModel.removeOne(II)V -/
def f133 (call : Nat → List ag_V → ag_H → ag_R)  (l0 : Option Nat) (l1 : Int32) (l2 : Int32) (h : ag_H) : ag_R :=
  ag_at h l0 11 fun a1 _ => ag_bI (call 121 [.inr (some a1), .inl l1, .inl l2] h) fun x3 h2 =>
  ag_at h2 l0 11 fun a4 _ => ag_bV (call 117 [.inr (some a4), .inl l1, .inl (ag_lit8 122), .inl l2] h2) fun h5 =>
  ag_gR h5 l0 11 7 fun x6 =>
  ag_xI h5 x6 102 x3 fun x7 =>
  if x7 = (ag_lit 0) then
    ag_at h5 l0 11 fun a13 _ => ag_bV (call 118 [.inr (some a13), .inl (ag_lit8 110)] h5) fun h14 =>
    f133_77 call l0 l1 l2 h14
  else
    if x3 = ((ag_lit16 300) * l1) then
      f133_61 call l0 l1 l2 h5
    else
      ag_gR h5 l0 11 8 fun x8 =>
      ag_xI h5 x8 102 x3 fun x9 =>
      if x9 = (ag_lit 0) then
        f133_70 call l0 l1 l2 x3 h5
      else
        ag_at h5 l0 11 fun a10 _ => ag_bI (call 129 [.inr (some a10), .inl l1, .inl x3, .inl (ag_lit 0)] h5) fun x12 h11 =>
        if x12 < (ag_lit 0) then
          f133_70 call l0 l1 l2 x3 h11
        else
          f133_61 call l0 l1 l2 h11
set_option maxRecDepth 100000 in
set_option maxHeartbeats 4000000 in
theorem i133 (call : Nat → List ag_V → ag_H → ag_R) (B : ag_K4) (l0 : Option Nat) (l1 : Int32) (l2 : Int32) (h : ag_H) : ag_in 0 call B t133 0 [some (.inr l0), some (.inl l1), some (.inl l2), none] [] h = f133 call  l0 l1 l2 h := by
  rfl
set_option maxRecDepth 100000 in
set_option maxHeartbeats 4000000 in
theorem r133 (d : Nat) (l0 : Option Nat) (l1 : Int32) (l2 : Int32) (h : ag_H) : ag_run gT (d + 1) 133 [.inr l0, .inl l1, .inl l2] h = f133 (ag_run gT d)  l0 l1 l2 h := by
  show ag_out 0 (ag_run gT d) t133 4000 0 [some (.inr l0), some (.inl l1), some (.inl l2), none] [] h = _
  rw [ag_out_top, i133]
def f134_38 (call : Nat → List ag_V → ag_H → ag_R)  (l0 : Option Nat) (h : ag_H) : ag_R :=
  ag_at h l0 11 fun a1 _ => ag_bV (call 120 [.inr (some a1)] h) fun h2 =>
  some (.inl none, h2)
/-- NameSpacesModel.statOne(II)V -/
def f134 (call : Nat → List ag_V → ag_H → ag_R)  (l0 : Option Nat) (l1 : Int32) (l2 : Int32) (h : ag_H) : ag_R :=
  ag_at h l0 11 fun a1 _ => ag_bI (call 121 [.inr (some a1), .inl l1, .inl l2] h) fun x3 h2 =>
  ag_at h2 l0 11 fun a4 _ => ag_bV (call 117 [.inr (some a4), .inl l1, .inl (ag_lit8 124), .inl l2] h2) fun h5 =>
  ag_gR h5 l0 11 7 fun x6 =>
  ag_xI h5 x6 102 x3 fun x7 =>
  if x7 = (ag_lit 0) then
    ag_at h5 l0 11 fun a10 _ => ag_bV (call 118 [.inr (some a10), .inl (ag_lit8 110)] h5) fun h11 =>
    f134_38 call l0 h11
  else
    ag_at h5 l0 11 fun a8 _ => ag_bV (call 119 [.inr (some a8), .inl x3] h5) fun h9 =>
    f134_38 call l0 h9
set_option maxRecDepth 100000 in
set_option maxHeartbeats 4000000 in
theorem i134 (call : Nat → List ag_V → ag_H → ag_R) (B : ag_K4) (l0 : Option Nat) (l1 : Int32) (l2 : Int32) (h : ag_H) : ag_in 0 call B t134 0 [some (.inr l0), some (.inl l1), some (.inl l2), none] [] h = f134 call  l0 l1 l2 h := by
  rfl
set_option maxRecDepth 100000 in
set_option maxHeartbeats 4000000 in
theorem r134 (d : Nat) (l0 : Option Nat) (l1 : Int32) (l2 : Int32) (h : ag_H) : ag_run gT (d + 1) 134 [.inr l0, .inl l1, .inl l2] h = f134 (ag_run gT d)  l0 l1 l2 h := by
  show ag_out 0 (ag_run gT d) t134 4000 0 [some (.inr l0), some (.inl l1), some (.inl l2), none] [] h = _
  rw [ag_out_top, i134]
def f135_15 (call : Nat → List ag_V → ag_H → ag_R)  (l0 : Option Nat) (l1 : Int32) (s0 : Option Nat) (s1 : Int32) (h : ag_H) : ag_R :=
  ag_pF h s0 11 41 (.inl s1) fun h1 =>
  ag_gI h1 l0 11 41 fun x2 =>
  if x2 = (ag_lit 0) then
    ag_gR h1 l0 11 1 fun x3 =>
    ag_gI h1 l0 11 0 fun x4 =>
    ag_isC l1 <| ag_xP h1 x3 101 x4 (.inl l1) fun h5 =>
    ag_gI h5 l0 11 0 fun x6 =>
    ag_pF h5 l0 11 0 (.inl (x6 + (ag_lit 1))) fun h7 =>
    ag_gI h7 l0 11 0 fun x8 =>
    some (.inl (some (.inl x8)), h7)
  else
    some (.inl (some (.inl (ag_lit 0))), h1)
/-- NameSpacesModel.type(C)I -/
def f135 (call : Nat → List ag_V → ag_H → ag_R)  (l0 : Option Nat) (l1 : Int32) (h : ag_H) : ag_R :=
  ag_gI h l0 11 0 fun x1 =>
  if x1 = (ag_lit8 24) then
    f135_15 call l0 l1 l0 (ag_lit 1) h
  else
    f135_15 call l0 l1 l0 (ag_lit 0) h
set_option maxRecDepth 100000 in
set_option maxHeartbeats 4000000 in
theorem i135 (call : Nat → List ag_V → ag_H → ag_R) (B : ag_K4) (l0 : Option Nat) (l1 : Int32) (h : ag_H) : ag_in 1 call B t135 0 [some (.inr l0), some (.inl l1)] [] h = f135 call  l0 l1 h := by
  rfl
set_option maxRecDepth 100000 in
set_option maxHeartbeats 4000000 in
theorem r135 (d : Nat) (l0 : Option Nat) (l1 : Int32) (h : ag_H) : ag_run gT (d + 1) 135 [.inr l0, .inl l1] h = f135 (ag_run gT d)  l0 l1 h := by
  show ag_out 1 (ag_run gT d) t135 4000 0 [some (.inr l0), some (.inl l1)] [] h = _
  rw [ag_out_top, i135]
def f136_7 (call : Nat → List ag_V → ag_H → ag_R) (b7 : Option Nat → Int32 → ag_H → ag_R) (l0 : Option Nat) (l1 : Int32) (h : ag_H) : ag_R :=
  ag_gI h l0 11 0 fun x1 =>
  if x1 ≤ l1 then
    ag_gI h l0 11 0 fun x2 =>
    ag_pF h l0 11 2 (.inl x2) fun h3 =>
    ag_pF h3 l0 11 0 (.inl (ag_lit 0)) fun h4 =>
    ag_gI h4 l0 11 2 fun x5 =>
    some (.inl (some (.inl x5)), h4)
  else
    ag_gR h l0 11 3 fun x6 =>
    ag_gR h l0 11 1 fun x7 =>
    ag_xI h x7 101 l1 fun x8 =>
    ag_isC x8 <| ag_xP h x6 101 l1 (.inl x8) fun h9 =>
    b7 l0 (l1 + ag_lit 1) h9
/-- NameSpacesModel.keep()I -/
def f136 (call : Nat → List ag_V → ag_H → ag_R) (b7 : Option Nat → Int32 → ag_H → ag_R) (l0 : Option Nat) (h : ag_H) : ag_R :=
  ag_pF h l0 11 41 (.inl (ag_lit 0)) fun h1 =>
  f136_7 call b7 l0 (ag_lit 0) h1
def g136 (call : Nat → List ag_V → ag_H → ag_R) : Nat → Option Nat → Int32 → ag_H → ag_R
  | 0 => fun _ _ _ => none
  | n + 1 => f136_7 call (g136 call n)
set_option maxRecDepth 100000 in
set_option maxHeartbeats 4000000 in
theorem i136_7 (call : Nat → List ag_V → ag_H → ag_R) (B : ag_K4) (l0 : Option Nat) (l1 : Int32) (h : ag_H) : ag_in 1 call B t136 7 [some (.inr l0), some (.inl l1)] [] h = f136_7 call (fun (l0 : Option Nat) (l1 : Int32) (h : ag_H) => B 7 [some (.inr l0), some (.inl l1)] [] h) l0 l1 h := by
  rfl
set_option maxRecDepth 100000 in
set_option maxHeartbeats 4000000 in
theorem i136 (call : Nat → List ag_V → ag_H → ag_R) (B : ag_K4) (l0 : Option Nat) (h : ag_H) : ag_in 1 call B t136 0 [some (.inr l0), none] [] h = f136 call (fun (l0 : Option Nat) (l1 : Int32) (h : ag_H) => B 7 [some (.inr l0), some (.inl l1)] [] h) l0 h := by
  rfl
set_option maxRecDepth 100000 in
set_option maxHeartbeats 4000000 in
theorem o136 (call : Nat → List ag_V → ag_H → ag_R) : ∀ n : Nat, (fun (l0 : Option Nat) (l1 : Int32) (h : ag_H) => (ag_out 1 call t136 n) 7 [some (.inr l0), some (.inl l1)] [] h) = g136 call n := by
  intro n
  induction n with
  | zero => rfl
  | succ n ih =>
    funext l0 l1 h
    show ag_in 1 call (ag_out 1 call t136 n) t136 7 [some (.inr l0), some (.inl l1)] [] h = f136_7 call (g136 call n) l0 l1 h
    rw [i136_7, ih]
set_option maxRecDepth 100000 in
set_option maxHeartbeats 4000000 in
theorem r136 (d : Nat) (l0 : Option Nat) (h : ag_H) : ag_run gT (d + 1) 136 [.inr l0] h = f136 (ag_run gT d) (g136 (ag_run gT d) 3999) l0 h := by
  show ag_out 1 (ag_run gT d) t136 4000 0 [some (.inr l0), none] [] h = _
  rw [ag_out_top, i136, o136]
def f137_44 (call : Nat → List ag_V → ag_H → ag_R)  (s0 : Int32) (h : ag_H) : ag_R :=
  some (.inl (some (.inl s0)), h)
def f137_15 (call : Nat → List ag_V → ag_H → ag_R)  (l0 : Option Nat) (l1 : Int32) (l2 : Int32) (s0 : Int32) (h : ag_H) : ag_R :=
  if l2 < s0 then
    if l1 = (ag_lit 0) then
      ag_gR h l0 11 1 fun x1 =>
      ag_xI h x1 101 l2 fun x2 =>
      f137_44 call x2 h
    else
      ag_gR h l0 11 3 fun x3 =>
      ag_xI h x3 101 l2 fun x4 =>
      f137_44 call x4 h
  else
    f137_44 call (ag_lit (-1)) h
/-- NameSpacesModel.charAt(ZI)I -/
def f137 (call : Nat → List ag_V → ag_H → ag_R)  (l0 : Option Nat) (l1 : Int32) (l2 : Int32) (h : ag_H) : ag_R :=
  if l1 = (ag_lit 0) then
    ag_gI h l0 11 0 fun x1 =>
    f137_15 call l0 l1 l2 x1 h
  else
    ag_gI h l0 11 2 fun x2 =>
    f137_15 call l0 l1 l2 x2 h
set_option maxRecDepth 100000 in
set_option maxHeartbeats 4000000 in
theorem i137 (call : Nat → List ag_V → ag_H → ag_R) (B : ag_K4) (l0 : Option Nat) (l1 : Int32) (l2 : Int32) (h : ag_H) : ag_in 1 call B t137 0 [some (.inr l0), some (.inl l1), some (.inl l2), none] [] h = f137 call  l0 l1 l2 h := by
  rfl
set_option maxRecDepth 100000 in
set_option maxHeartbeats 4000000 in
theorem r137 (d : Nat) (l0 : Option Nat) (l1 : Int32) (l2 : Int32) (h : ag_H) : ag_run gT (d + 1) 137 [.inr l0, .inl l1, .inl l2] h = f137 (ag_run gT d)  l0 l1 l2 h := by
  show ag_out 1 (ag_run gT d) t137 4000 0 [some (.inr l0), some (.inl l1), some (.inl l2), none] [] h = _
  rw [ag_out_top, i137]
def f138_188 (call : Nat → List ag_V → ag_H → ag_R) (b45 : Option Nat → Int32 → Int32 → Int32 → ag_H → ag_R) (s0 : Int32) (h : ag_H) : ag_R :=
  ag_isB s0 (some (.inl (some (.inl s0)), h))
def f138_176 (call : Nat → List ag_V → ag_H → ag_R) (b45 : Option Nat → Int32 → Int32 → Int32 → ag_H → ag_R) (l0 : Option Nat) (l1 : Int32) (l2 : Int32) (l3 : Int32) (h : ag_H) : ag_R :=
  b45 l0 l1 l2 l3 h
def f138_140 (call : Nat → List ag_V → ag_H → ag_R) (b45 : Option Nat → Int32 → Int32 → Int32 → ag_H → ag_R) (l0 : Option Nat) (l1 : Int32) (l2 : Int32) (l3 : Int32) (s0 : Option Nat) (s1 : Int32) (h : ag_H) : ag_R :=
  ag_pF h s0 11 4 (.inl s1) fun h1 =>
  f138_176 call b45 l0 l1 l2 (l3 + ag_lit 3) h1
def f138_117 (call : Nat → List ag_V → ag_H → ag_R) (b45 : Option Nat → Int32 → Int32 → Int32 → ag_H → ag_R) (l0 : Option Nat) (l1 : Int32) (l2 : Int32) (l3 : Int32) (l4 : Int32) (l5 : Int32) (h : ag_H) : ag_R :=
  if l5 = (ag_lit 0) then
    ag_gR h l0 11 5 fun x1 =>
    ag_gI h l0 11 4 fun x2 =>
    ag_xP h x1 100 x2 (.inl (l4 - (ag_lit8 97))) fun h3 =>
    ag_gI h3 l0 11 4 fun x4 =>
    ag_pF h3 l0 11 4 (.inl (x4 + (ag_lit 1))) fun h5 =>
    f138_176 call b45 l0 l1 l2 (l3 + ag_lit 2) h5
  else
    ag_gI h l0 11 4 fun x6 =>
    if x6 ≤ (ag_lit 0) then
      f138_140 call b45 l0 l1 l2 l3 l0 (ag_lit 0) h
    else
      ag_gI h l0 11 4 fun x7 =>
      f138_140 call b45 l0 l1 l2 l3 l0 (x7 - (ag_lit 1)) h
def f138_115 (call : Nat → List ag_V → ag_H → ag_R) (b45 : Option Nat → Int32 → Int32 → Int32 → ag_H → ag_R)  (h : ag_H) : ag_R :=
  ag_isB (ag_lit 0) (some (.inl (some (.inl (ag_lit 0))), h))
def f138_85 (call : Nat → List ag_V → ag_H → ag_R) (b45 : Option Nat → Int32 → Int32 → Int32 → ag_H → ag_R) (l0 : Option Nat) (l1 : Int32) (l2 : Int32) (l3 : Int32) (l4 : Int32) (s0 : Int32) (h : ag_H) : ag_R :=
  ag_at h l0 11 fun a1 _ => ag_bI (call 137 [.inr (some a1), .inl l1, .inl l3] h) fun x3 h2 =>
  if x3 = (ag_lit8 47) then
    if s0 = (ag_lit 0) then
      ag_bI (call 114 [.inl l4, .inl (ag_lit8 97), .inl (ag_lit8 104)] h2) fun x5 h4 =>
      if x5 = (ag_lit 0) then
        f138_117 call b45 l0 l1 l2 l3 l4 s0 h4
      else
        f138_115 call b45 h4
    else
      f138_117 call b45 l0 l1 l2 l3 l4 s0 h2
  else
    f138_115 call b45 h2
def f138_84 (call : Nat → List ag_V → ag_H → ag_R) (b45 : Option Nat → Int32 → Int32 → Int32 → ag_H → ag_R) (l0 : Option Nat) (l1 : Int32) (l2 : Int32) (l3 : Int32) (l4 : Int32) (h : ag_H) : ag_R :=
  f138_85 call b45 l0 l1 l2 l3 l4 (ag_lit 0) h
def f138_45 (call : Nat → List ag_V → ag_H → ag_R) (b45 : Option Nat → Int32 → Int32 → Int32 → ag_H → ag_R) (l0 : Option Nat) (l1 : Int32) (l2 : Int32) (l3 : Int32) (h : ag_H) : ag_R :=
  if l2 ≤ l3 then
    if l2 ≤ (ag_lit 0) then
      f138_188 call b45 (ag_lit 0) h
    else
      f138_188 call b45 (ag_lit 1) h
  else
    ag_at h l0 11 fun a1 _ => ag_bI (call 137 [.inr (some a1), .inl l1, .inl (l3 + (ag_lit 1))] h) fun x3 h2 =>
    if x3 = (ag_lit8 46) then
      ag_at h2 l0 11 fun a4 _ => ag_bI (call 137 [.inr (some a4), .inl l1, .inl (l3 + (ag_lit 2))] h2) fun x6 h5 =>
      if x6 = (ag_lit8 46) then
        f138_85 call b45 l0 l1 l2 l3 x3 (ag_lit 1) h5
      else
        f138_84 call b45 l0 l1 l2 l3 x3 h5
    else
      f138_84 call b45 l0 l1 l2 l3 x3 h2
def f138_42 (call : Nat → List ag_V → ag_H → ag_R) (b45 : Option Nat → Int32 → Int32 → Int32 → ag_H → ag_R) (s0 : Int32) (h : ag_H) : ag_R :=
  ag_isB s0 (some (.inl (some (.inl s0)), h))
def f138_15 (call : Nat → List ag_V → ag_H → ag_R) (b45 : Option Nat → Int32 → Int32 → Int32 → ag_H → ag_R) (l0 : Option Nat) (l1 : Int32) (s0 : Int32) (h : ag_H) : ag_R :=
  ag_pF h l0 11 4 (.inl (ag_lit 0)) fun h1 =>
  if s0 = (ag_lit 1) then
    ag_at h1 l0 11 fun a2 _ => ag_bI (call 137 [.inr (some a2), .inl l1, .inl (ag_lit 0)] h1) fun x4 h3 =>
    if x4 = (ag_lit8 47) then
      f138_42 call b45 (ag_lit 1) h3
    else
      f138_42 call b45 (ag_lit 0) h3
  else
    f138_45 call b45 l0 l1 s0 (ag_lit 0) h1
/-- NameSpacesModel.parsed(Z)Z -/
def f138 (call : Nat → List ag_V → ag_H → ag_R) (b45 : Option Nat → Int32 → Int32 → Int32 → ag_H → ag_R) (l0 : Option Nat) (l1 : Int32) (h : ag_H) : ag_R :=
  if l1 = (ag_lit 0) then
    ag_gI h l0 11 0 fun x1 =>
    f138_15 call b45 l0 l1 x1 h
  else
    ag_gI h l0 11 2 fun x2 =>
    f138_15 call b45 l0 l1 x2 h
def g138 (call : Nat → List ag_V → ag_H → ag_R) : Nat → Option Nat → Int32 → Int32 → Int32 → ag_H → ag_R
  | 0 => fun _ _ _ _ _ => none
  | n + 1 => f138_45 call (g138 call n)
set_option maxRecDepth 100000 in
set_option maxHeartbeats 4000000 in
theorem i138_45 (call : Nat → List ag_V → ag_H → ag_R) (B : ag_K4) (l0 : Option Nat) (l1 : Int32) (l2 : Int32) (l3 : Int32) (h : ag_H) : ag_in 4 call B t138 45 [some (.inr l0), some (.inl l1), some (.inl l2), some (.inl l3), none, none] [] h = f138_45 call (fun (l0 : Option Nat) (l1 : Int32) (l2 : Int32) (l3 : Int32) (h : ag_H) => B 45 [some (.inr l0), some (.inl l1), some (.inl l2), some (.inl l3), none, none] [] h) l0 l1 l2 l3 h := by
  rfl
set_option maxRecDepth 100000 in
set_option maxHeartbeats 4000000 in
theorem i138 (call : Nat → List ag_V → ag_H → ag_R) (B : ag_K4) (l0 : Option Nat) (l1 : Int32) (h : ag_H) : ag_in 4 call B t138 0 [some (.inr l0), some (.inl l1), none, none, none, none] [] h = f138 call (fun (l0 : Option Nat) (l1 : Int32) (l2 : Int32) (l3 : Int32) (h : ag_H) => B 45 [some (.inr l0), some (.inl l1), some (.inl l2), some (.inl l3), none, none] [] h) l0 l1 h := by
  rfl
set_option maxRecDepth 100000 in
set_option maxHeartbeats 4000000 in
theorem o138 (call : Nat → List ag_V → ag_H → ag_R) : ∀ n : Nat, (fun (l0 : Option Nat) (l1 : Int32) (l2 : Int32) (l3 : Int32) (h : ag_H) => (ag_out 4 call t138 n) 45 [some (.inr l0), some (.inl l1), some (.inl l2), some (.inl l3), none, none] [] h) = g138 call n := by
  intro n
  induction n with
  | zero => rfl
  | succ n ih =>
    funext l0 l1 l2 l3 h
    show ag_in 4 call (ag_out 4 call t138 n) t138 45 [some (.inr l0), some (.inl l1), some (.inl l2), some (.inl l3), none, none] [] h = f138_45 call (g138 call n) l0 l1 l2 l3 h
    rw [i138_45, ih]
set_option maxRecDepth 100000 in
set_option maxHeartbeats 4000000 in
theorem r138 (d : Nat) (l0 : Option Nat) (l1 : Int32) (h : ag_H) : ag_run gT (d + 1) 138 [.inr l0, .inl l1] h = f138 (ag_run gT d) (g138 (ag_run gT d) 3999) l0 l1 h := by
  show ag_out 4 (ag_run gT d) t138 4000 0 [some (.inr l0), some (.inl l1), none, none, none, none] [] h = _
  rw [ag_out_top, i138, o138]
/-- NameSpacesModel.forget()V -/
def f139 (call : Nat → List ag_V → ag_H → ag_R)  (l0 : Option Nat) (h : ag_H) : ag_R :=
  ag_pF h l0 11 0 (.inl (ag_lit 0)) fun h1 =>
  ag_pF h1 l0 11 2 (.inl (ag_lit 0)) fun h2 =>
  some (.inl none, h2)
set_option maxRecDepth 100000 in
set_option maxHeartbeats 4000000 in
theorem i139 (call : Nat → List ag_V → ag_H → ag_R) (B : ag_K4) (l0 : Option Nat) (h : ag_H) : ag_in 0 call B t139 0 [some (.inr l0)] [] h = f139 call  l0 h := by
  rfl
set_option maxRecDepth 100000 in
set_option maxHeartbeats 4000000 in
theorem r139 (d : Nat) (l0 : Option Nat) (h : ag_H) : ag_run gT (d + 1) 139 [.inr l0] h = f139 (ag_run gT d)  l0 h := by
  show ag_out 0 (ag_run gT d) t139 4000 0 [some (.inr l0)] [] h = _
  rw [ag_out_top, i139]
def f140_71 (call : Nat → List ag_V → ag_H → ag_R) (b14 : Option Nat → Int32 → Int32 → Int32 → Int32 → Int32 → ag_H → ag_R) (l0 : Option Nat) (l1 : Int32) (l2 : Int32) (l3 : Int32) (l4 : Int32) (l5 : Int32) (h : ag_H) : ag_R :=
  b14 l0 l1 l2 l3 l4 (l5 + ag_lit 1) h
def f140_14 (call : Nat → List ag_V → ag_H → ag_R) (b14 : Option Nat → Int32 → Int32 → Int32 → Int32 → Int32 → ag_H → ag_R) (l0 : Option Nat) (l1 : Int32) (l2 : Int32) (l3 : Int32) (l4 : Int32) (l5 : Int32) (h : ag_H) : ag_R :=
  ag_gR h l0 11 22 fun x1 =>
  ag_gR h l0 11 30 fun x2 =>
  ag_xI h x2 100 l1 fun x3 =>
  ag_xI h x1 100 x3 fun x4 =>
  if (l4 + x4) ≤ l5 then
    some (.inl (some (.inl (ag_lit (-1)))), h)
  else
    ag_gR h l0 11 23 fun x5 =>
    ag_xI h x5 100 l5 fun x6 =>
    if x6 = l2 then
      ag_gR h l0 11 24 fun x7 =>
      ag_xI h x7 100 l5 fun x8 =>
      ag_gR h l0 11 14 fun x9 =>
      ag_xI h x9 100 (((ag_lit16 200) * l2) + l3) fun x10 =>
      if x8 = (x10 - (ag_lit 1)) then
        some (.inl (some (.inl l5)), h)
      else
        f140_71 call b14 l0 l1 l2 l3 l4 l5 h
    else
      f140_71 call b14 l0 l1 l2 l3 l4 l5 h
/-- NameSpacesModel.placeOf(III)I -/
def f140 (call : Nat → List ag_V → ag_H → ag_R) (b14 : Option Nat → Int32 → Int32 → Int32 → Int32 → Int32 → ag_H → ag_R) (l0 : Option Nat) (l1 : Int32) (l2 : Int32) (l3 : Int32) (h : ag_H) : ag_R :=
  ag_gR h l0 11 30 fun x1 =>
  ag_xI h x1 100 l1 fun x2 =>
  f140_14 call b14 l0 l1 l2 l3 ((ag_lit 4) * x2) ((ag_lit 4) * x2) h
def g140 (call : Nat → List ag_V → ag_H → ag_R) : Nat → Option Nat → Int32 → Int32 → Int32 → Int32 → Int32 → ag_H → ag_R
  | 0 => fun _ _ _ _ _ _ _ => none
  | n + 1 => f140_14 call (g140 call n)
set_option maxRecDepth 100000 in
set_option maxHeartbeats 4000000 in
theorem i140_14 (call : Nat → List ag_V → ag_H → ag_R) (B : ag_K4) (l0 : Option Nat) (l1 : Int32) (l2 : Int32) (l3 : Int32) (l4 : Int32) (l5 : Int32) (h : ag_H) : ag_in 1 call B t140 14 [some (.inr l0), some (.inl l1), some (.inl l2), some (.inl l3), some (.inl l4), some (.inl l5)] [] h = f140_14 call (fun (l0 : Option Nat) (l1 : Int32) (l2 : Int32) (l3 : Int32) (l4 : Int32) (l5 : Int32) (h : ag_H) => B 14 [some (.inr l0), some (.inl l1), some (.inl l2), some (.inl l3), some (.inl l4), some (.inl l5)] [] h) l0 l1 l2 l3 l4 l5 h := by
  rfl
set_option maxRecDepth 100000 in
set_option maxHeartbeats 4000000 in
theorem i140 (call : Nat → List ag_V → ag_H → ag_R) (B : ag_K4) (l0 : Option Nat) (l1 : Int32) (l2 : Int32) (l3 : Int32) (h : ag_H) : ag_in 1 call B t140 0 [some (.inr l0), some (.inl l1), some (.inl l2), some (.inl l3), none, none] [] h = f140 call (fun (l0 : Option Nat) (l1 : Int32) (l2 : Int32) (l3 : Int32) (l4 : Int32) (l5 : Int32) (h : ag_H) => B 14 [some (.inr l0), some (.inl l1), some (.inl l2), some (.inl l3), some (.inl l4), some (.inl l5)] [] h) l0 l1 l2 l3 h := by
  rfl
set_option maxRecDepth 100000 in
set_option maxHeartbeats 4000000 in
theorem o140 (call : Nat → List ag_V → ag_H → ag_R) : ∀ n : Nat, (fun (l0 : Option Nat) (l1 : Int32) (l2 : Int32) (l3 : Int32) (l4 : Int32) (l5 : Int32) (h : ag_H) => (ag_out 1 call t140 n) 14 [some (.inr l0), some (.inl l1), some (.inl l2), some (.inl l3), some (.inl l4), some (.inl l5)] [] h) = g140 call n := by
  intro n
  induction n with
  | zero => rfl
  | succ n ih =>
    funext l0 l1 l2 l3 l4 l5 h
    show ag_in 1 call (ag_out 1 call t140 n) t140 14 [some (.inr l0), some (.inl l1), some (.inl l2), some (.inl l3), some (.inl l4), some (.inl l5)] [] h = f140_14 call (g140 call n) l0 l1 l2 l3 l4 l5 h
    rw [i140_14, ih]
set_option maxRecDepth 100000 in
set_option maxHeartbeats 4000000 in
theorem r140 (d : Nat) (l0 : Option Nat) (l1 : Int32) (l2 : Int32) (l3 : Int32) (h : ag_H) : ag_run gT (d + 1) 140 [.inr l0, .inl l1, .inl l2, .inl l3] h = f140 (ag_run gT d) (g140 (ag_run gT d) 3999) l0 l1 l2 l3 h := by
  show ag_out 1 (ag_run gT d) t140 4000 0 [some (.inr l0), some (.inl l1), some (.inl l2), some (.inl l3), none, none] [] h = _
  rw [ag_out_top, i140, o140]
def f141_197 (call : Nat → List ag_V → ag_H → ag_R) (b12 : Option Nat → Int32 → Int32 → Int32 → ag_H → ag_R) (b62 : Option Nat → Int32 → Int32 → Int32 → Int32 → Int32 → Int32 → Int32 → Int32 → ag_H → ag_R) (s0 : Int32) (h : ag_H) : ag_R :=
  some (.inl (some (.inl s0)), h)
def f141_156 (call : Nat → List ag_V → ag_H → ag_R) (b12 : Option Nat → Int32 → Int32 → Int32 → ag_H → ag_R) (b62 : Option Nat → Int32 → Int32 → Int32 → Int32 → Int32 → Int32 → Int32 → Int32 → ag_H → ag_R) (l0 : Option Nat) (l1 : Int32) (l2 : Int32) (l3 : Int32) (l6 : Int32) (l7 : Int32) (h : ag_H) : ag_R :=
  ag_gI h l0 11 20 fun x1 =>
  ag_gI h l0 11 40 fun x2 =>
  ag_gI h l0 11 38 fun x3 =>
  ag_gI h l0 11 39 fun x4 =>
  ag_at h l0 11 fun a5 _ => ag_bV (call 132 [.inr (some a5), .inl x3, .inl x4] h) fun h6 =>
  if l7 = (ag_lit 0) then
    if x1 = (ag_lit8 100) then
      f141_197 call b12 b62 (ag_lit 2) h6
    else
      f141_197 call b12 b62 (ag_lit 1) h6
  else
    ag_pF h6 l0 11 38 (.inl l6) fun h7 =>
    ag_pF h7 l0 11 39 (.inl x2) fun h8 =>
    b12 l0 l1 l2 (l3 + ag_lit 1) h8
def f141_148 (call : Nat → List ag_V → ag_H → ag_R) (b12 : Option Nat → Int32 → Int32 → Int32 → ag_H → ag_R) (b62 : Option Nat → Int32 → Int32 → Int32 → Int32 → Int32 → Int32 → Int32 → Int32 → ag_H → ag_R) (l0 : Option Nat) (l1 : Int32) (l2 : Int32) (l3 : Int32) (l4 : Int32) (l5 : Int32) (l6 : Int32) (l8 : Int32) (s0 : Int32) (h : ag_H) : ag_R :=
  b62 l0 l1 l2 l3 l4 l5 l6 s0 (l8 + ag_lit 1) h
def f141_127 (call : Nat → List ag_V → ag_H → ag_R) (b12 : Option Nat → Int32 → Int32 → Int32 → ag_H → ag_R) (b62 : Option Nat → Int32 → Int32 → Int32 → Int32 → Int32 → Int32 → Int32 → Int32 → ag_H → ag_R) (l0 : Option Nat) (l1 : Int32) (l2 : Int32) (l3 : Int32) (l4 : Int32) (l5 : Int32) (l6 : Int32) (l8 : Int32) (s0 : Option Nat) (s1 : Int32) (s2 : Int32) (h : ag_H) : ag_R :=
  ag_gR h l0 11 5 fun x1 =>
  ag_xI h x1 100 l3 fun x2 =>
  ag_at h s0 11 fun a3 _ => ag_bV (call 125 [.inr (some a3), .inl s1, .inl s2, .inl x2] h) fun h4 =>
  ag_gI h4 l0 11 20 fun x5 =>
  if x5 = (ag_lit 0) then
    f141_148 call b12 b62 l0 l1 l2 l3 l4 l5 l6 l8 (ag_lit 1) h4
  else
    f141_148 call b12 b62 l0 l1 l2 l3 l4 l5 l6 l8 (ag_lit 0) h4
def f141_98 (call : Nat → List ag_V → ag_H → ag_R) (b12 : Option Nat → Int32 → Int32 → Int32 → ag_H → ag_R) (b62 : Option Nat → Int32 → Int32 → Int32 → Int32 → Int32 → Int32 → Int32 → Int32 → ag_H → ag_R) (l0 : Option Nat) (l1 : Int32) (l2 : Int32) (l3 : Int32) (l4 : Int32) (l5 : Int32) (l8 : Int32) (s0 : Int32) (h : ag_H) : ag_R :=
  if (ag_lit 0) ≤ l4 then
    ag_gR h l0 11 27 fun x1 =>
    ag_xI h x1 100 (((ag_lit 3) * l4) + l8) fun x2 =>
    f141_127 call b12 b62 l0 l1 l2 l3 l4 l5 s0 l8 l0 s0 x2 h
  else
    ag_gI h l0 11 39 fun x3 =>
    f141_127 call b12 b62 l0 l1 l2 l3 l4 l5 s0 l8 l0 s0 x3 h
def f141_62 (call : Nat → List ag_V → ag_H → ag_R) (b12 : Option Nat → Int32 → Int32 → Int32 → ag_H → ag_R) (b62 : Option Nat → Int32 → Int32 → Int32 → Int32 → Int32 → Int32 → Int32 → Int32 → ag_H → ag_R) (l0 : Option Nat) (l1 : Int32) (l2 : Int32) (l3 : Int32) (l4 : Int32) (l5 : Int32) (l6 : Int32) (l7 : Int32) (l8 : Int32) (h : ag_H) : ag_R :=
  if l5 ≤ l8 then
    f141_156 call b12 b62 l0 l1 l2 l3 l6 l7 h
  else
    if l7 = (ag_lit 0) then
      if (ag_lit 0) ≤ l4 then
        ag_gR h l0 11 26 fun x1 =>
        ag_xI h x1 100 (((ag_lit 3) * l4) + l8) fun x2 =>
        f141_98 call b12 b62 l0 l1 l2 l3 l4 l5 l8 x2 h
      else
        ag_gI h l0 11 38 fun x3 =>
        f141_98 call b12 b62 l0 l1 l2 l3 l4 l5 l8 x3 h
    else
      f141_156 call b12 b62 l0 l1 l2 l3 l6 l7 h
def f141_48 (call : Nat → List ag_V → ag_H → ag_R) (b12 : Option Nat → Int32 → Int32 → Int32 → ag_H → ag_R) (b62 : Option Nat → Int32 → Int32 → Int32 → Int32 → Int32 → Int32 → Int32 → Int32 → ag_H → ag_R) (l0 : Option Nat) (l1 : Int32) (l2 : Int32) (l3 : Int32) (l4 : Int32) (s0 : Int32) (h : ag_H) : ag_R :=
  ag_gI h l0 11 38 fun x1 =>
  f141_62 call b12 b62 l0 l1 l2 l3 l4 s0 x1 (ag_lit 0) (ag_lit 0) h
def f141_12 (call : Nat → List ag_V → ag_H → ag_R) (b12 : Option Nat → Int32 → Int32 → Int32 → ag_H → ag_R) (b62 : Option Nat → Int32 → Int32 → Int32 → Int32 → Int32 → Int32 → Int32 → Int32 → ag_H → ag_R) (l0 : Option Nat) (l1 : Int32) (l2 : Int32) (l3 : Int32) (h : ag_H) : ag_R :=
  if l2 ≤ l3 then
    some (.inl (some (.inl (ag_lit 0))), h)
  else
    ag_gI h l0 11 38 fun x1 =>
    ag_gI h l0 11 39 fun x2 =>
    ag_at h l0 11 fun a3 _ => ag_bI (call 140 [.inr (some a3), .inl l1, .inl x1, .inl x2] h) fun x5 h4 =>
    if (ag_lit 0) ≤ x5 then
      ag_gR h4 l0 11 25 fun x6 =>
      ag_xI h4 x6 100 x5 fun x7 =>
      f141_48 call b12 b62 l0 l1 l2 l3 x5 x7 h4
    else
      f141_48 call b12 b62 l0 l1 l2 l3 x5 (ag_lit 1) h4
/-- NameSpacesModel.walk(II)I -/
def f141 (call : Nat → List ag_V → ag_H → ag_R) (b12 : Option Nat → Int32 → Int32 → Int32 → ag_H → ag_R) (b62 : Option Nat → Int32 → Int32 → Int32 → Int32 → Int32 → Int32 → Int32 → Int32 → ag_H → ag_R) (l0 : Option Nat) (l1 : Int32) (l2 : Int32) (h : ag_H) : ag_R :=
  ag_pF h l0 11 38 (.inl (ag_lit 0)) fun h1 =>
  ag_pF h1 l0 11 39 (.inl (ag_lit 0)) fun h2 =>
  f141_12 call b12 b62 l0 l1 l2 (ag_lit 0) h2
def g141 (call : Nat → List ag_V → ag_H → ag_R) : Nat → (Option Nat → Int32 → Int32 → Int32 → ag_H → ag_R) × (Option Nat → Int32 → Int32 → Int32 → Int32 → Int32 → Int32 → Int32 → Int32 → ag_H → ag_R)
  | 0 => (fun _ _ _ _ _ => none, fun _ _ _ _ _ _ _ _ _ _ => none)
  | n + 1 => (f141_12 call (g141 call n).1 (g141 call n).2, f141_62 call (g141 call n).1 (g141 call n).2)
set_option maxRecDepth 100000 in
set_option maxHeartbeats 4000000 in
theorem i141_12 (call : Nat → List ag_V → ag_H → ag_R) (B : ag_K4) (l0 : Option Nat) (l1 : Int32) (l2 : Int32) (l3 : Int32) (h : ag_H) : ag_in 1 call B t141 12 [some (.inr l0), some (.inl l1), some (.inl l2), some (.inl l3), none, none, none, none, none, none] [] h = f141_12 call (fun (l0 : Option Nat) (l1 : Int32) (l2 : Int32) (l3 : Int32) (h : ag_H) => B 12 [some (.inr l0), some (.inl l1), some (.inl l2), some (.inl l3), none, none, none, none, none, none] [] h) (fun (l0 : Option Nat) (l1 : Int32) (l2 : Int32) (l3 : Int32) (l4 : Int32) (l5 : Int32) (l6 : Int32) (l7 : Int32) (l8 : Int32) (h : ag_H) => B 62 [some (.inr l0), some (.inl l1), some (.inl l2), some (.inl l3), some (.inl l4), some (.inl l5), some (.inl l6), some (.inl l7), some (.inl l8), none] [] h) l0 l1 l2 l3 h := by
  rfl
set_option maxRecDepth 100000 in
set_option maxHeartbeats 4000000 in
theorem i141_62 (call : Nat → List ag_V → ag_H → ag_R) (B : ag_K4) (l0 : Option Nat) (l1 : Int32) (l2 : Int32) (l3 : Int32) (l4 : Int32) (l5 : Int32) (l6 : Int32) (l7 : Int32) (l8 : Int32) (h : ag_H) : ag_in 1 call B t141 62 [some (.inr l0), some (.inl l1), some (.inl l2), some (.inl l3), some (.inl l4), some (.inl l5), some (.inl l6), some (.inl l7), some (.inl l8), none] [] h = f141_62 call (fun (l0 : Option Nat) (l1 : Int32) (l2 : Int32) (l3 : Int32) (h : ag_H) => B 12 [some (.inr l0), some (.inl l1), some (.inl l2), some (.inl l3), none, none, none, none, none, none] [] h) (fun (l0 : Option Nat) (l1 : Int32) (l2 : Int32) (l3 : Int32) (l4 : Int32) (l5 : Int32) (l6 : Int32) (l7 : Int32) (l8 : Int32) (h : ag_H) => B 62 [some (.inr l0), some (.inl l1), some (.inl l2), some (.inl l3), some (.inl l4), some (.inl l5), some (.inl l6), some (.inl l7), some (.inl l8), none] [] h) l0 l1 l2 l3 l4 l5 l6 l7 l8 h := by
  rfl
set_option maxRecDepth 100000 in
set_option maxHeartbeats 4000000 in
theorem i141 (call : Nat → List ag_V → ag_H → ag_R) (B : ag_K4) (l0 : Option Nat) (l1 : Int32) (l2 : Int32) (h : ag_H) : ag_in 1 call B t141 0 [some (.inr l0), some (.inl l1), some (.inl l2), none, none, none, none, none, none, none] [] h = f141 call (fun (l0 : Option Nat) (l1 : Int32) (l2 : Int32) (l3 : Int32) (h : ag_H) => B 12 [some (.inr l0), some (.inl l1), some (.inl l2), some (.inl l3), none, none, none, none, none, none] [] h) (fun (l0 : Option Nat) (l1 : Int32) (l2 : Int32) (l3 : Int32) (l4 : Int32) (l5 : Int32) (l6 : Int32) (l7 : Int32) (l8 : Int32) (h : ag_H) => B 62 [some (.inr l0), some (.inl l1), some (.inl l2), some (.inl l3), some (.inl l4), some (.inl l5), some (.inl l6), some (.inl l7), some (.inl l8), none] [] h) l0 l1 l2 h := by
  rfl
set_option maxRecDepth 100000 in
set_option maxHeartbeats 4000000 in
theorem o141 (call : Nat → List ag_V → ag_H → ag_R) : ∀ n : Nat, (fun (l0 : Option Nat) (l1 : Int32) (l2 : Int32) (l3 : Int32) (h : ag_H) => (ag_out 1 call t141 n) 12 [some (.inr l0), some (.inl l1), some (.inl l2), some (.inl l3), none, none, none, none, none, none] [] h) = (g141 call n).1 ∧ (fun (l0 : Option Nat) (l1 : Int32) (l2 : Int32) (l3 : Int32) (l4 : Int32) (l5 : Int32) (l6 : Int32) (l7 : Int32) (l8 : Int32) (h : ag_H) => (ag_out 1 call t141 n) 62 [some (.inr l0), some (.inl l1), some (.inl l2), some (.inl l3), some (.inl l4), some (.inl l5), some (.inl l6), some (.inl l7), some (.inl l8), none] [] h) = (g141 call n).2 := by
  intro n
  induction n with
  | zero => exact ⟨rfl, rfl⟩
  | succ n ih =>
    obtain ⟨e0, e1⟩ := ih
    refine ⟨?_, ?_⟩
    · funext l0 l1 l2 l3 h
      show ag_in 1 call (ag_out 1 call t141 n) t141 12 [some (.inr l0), some (.inl l1), some (.inl l2), some (.inl l3), none, none, none, none, none, none] [] h = f141_12 call (g141 call n).1 (g141 call n).2 l0 l1 l2 l3 h
      rw [i141_12, e0, e1]
    · funext l0 l1 l2 l3 l4 l5 l6 l7 l8 h
      show ag_in 1 call (ag_out 1 call t141 n) t141 62 [some (.inr l0), some (.inl l1), some (.inl l2), some (.inl l3), some (.inl l4), some (.inl l5), some (.inl l6), some (.inl l7), some (.inl l8), none] [] h = f141_62 call (g141 call n).1 (g141 call n).2 l0 l1 l2 l3 l4 l5 l6 l7 l8 h
      rw [i141_62, e0, e1]
set_option maxRecDepth 100000 in
set_option maxHeartbeats 4000000 in
theorem r141 (d : Nat) (l0 : Option Nat) (l1 : Int32) (l2 : Int32) (h : ag_H) : ag_run gT (d + 1) 141 [.inr l0, .inl l1, .inl l2] h = f141 (ag_run gT d) (g141 (ag_run gT d) 3999).1 (g141 (ag_run gT d) 3999).2 l0 l1 l2 h := by
  show ag_out 1 (ag_run gT d) t141 4000 0 [some (.inr l0), some (.inl l1), some (.inl l2), none, none, none, none, none, none, none] [] h = _
  rw [ag_out_top, i141, (o141 (ag_run gT d) 3999).1, (o141 (ag_run gT d) 3999).2]
/-- NameSpacesModel.isDirectory()Z -/
def f142 (call : Nat → List ag_V → ag_H → ag_R)  (l0 : Option Nat) (h : ag_H) : ag_R :=
  ag_gR h l0 11 8 fun x1 =>
  ag_gI h l0 11 38 fun x2 =>
  ag_gI h l0 11 39 fun x3 =>
  ag_at h l0 11 fun a4 _ => ag_bI (call 121 [.inr (some a4), .inl x2, .inl x3] h) fun x6 h5 =>
  ag_xI h5 x1 102 x6 fun x7 =>
  ag_isB x7 (some (.inl (some (.inl x7)), h5))
set_option maxRecDepth 100000 in
set_option maxHeartbeats 4000000 in
theorem i142 (call : Nat → List ag_V → ag_H → ag_R) (B : ag_K4) (l0 : Option Nat) (h : ag_H) : ag_in 4 call B t142 0 [some (.inr l0)] [] h = f142 call  l0 h := by
  rfl
set_option maxRecDepth 100000 in
set_option maxHeartbeats 4000000 in
theorem r142 (d : Nat) (l0 : Option Nat) (h : ag_H) : ag_run gT (d + 1) 142 [.inr l0] h = f142 (ag_run gT d)  l0 h := by
  show ag_out 4 (ag_run gT d) t142 4000 0 [some (.inr l0)] [] h = _
  rw [ag_out_top, i142]
def f143_29 (call : Nat → List ag_V → ag_H → ag_R)   (h : ag_H) : ag_R :=
  some (.inl none, h)
/-- NameSpacesModel.own()V -/
def f143 (call : Nat → List ag_V → ag_H → ag_R)  (l0 : Option Nat) (h : ag_H) : ag_R :=
  ag_gI h l0 11 38 fun x1 =>
  if x1 = (ag_lit 0) then
    ag_gI h l0 11 39 fun x2 =>
    if x2 = (ag_lit 0) then
      ag_at h l0 11 fun a3 _ => ag_bV (call 125 [.inr (some a3), .inl (ag_lit 0), .inl (ag_lit 0), .inl (ag_lit (-1))] h) fun h4 =>
      ag_gI h4 l0 11 40 fun x5 =>
      ag_pF h4 l0 11 39 (.inl x5) fun h6 =>
      f143_29 call h6
    else
      f143_29 call h
  else
    f143_29 call h
set_option maxRecDepth 100000 in
set_option maxHeartbeats 4000000 in
theorem i143 (call : Nat → List ag_V → ag_H → ag_R) (B : ag_K4) (l0 : Option Nat) (h : ag_H) : ag_in 0 call B t143 0 [some (.inr l0)] [] h = f143 call  l0 h := by
  rfl
set_option maxRecDepth 100000 in
set_option maxHeartbeats 4000000 in
theorem r143 (d : Nat) (l0 : Option Nat) (h : ag_H) : ag_run gT (d + 1) 143 [.inr l0] h = f143 (ag_run gT d)  l0 h := by
  show ag_out 0 (ag_run gT d) t143 4000 0 [some (.inr l0)] [] h = _
  rw [ag_out_top, i143]
def f144_23 (call : Nat → List ag_V → ag_H → ag_R)  (s0 : Int32) (h : ag_H) : ag_R :=
  ag_isB s0 (some (.inl (some (.inl s0)), h))
def f144_22 (call : Nat → List ag_V → ag_H → ag_R)   (h : ag_H) : ag_R :=
  f144_23 call (ag_lit 0) h
/-- NameSpacesModel.isProcess(I)Z -/
def f144 (call : Nat → List ag_V → ag_H → ag_R)  (l0 : Option Nat) (l1 : Int32) (h : ag_H) : ag_R :=
  if l1 < (ag_lit 0) then
    f144_22 call h
  else
    if (ag_lit 4) ≤ l1 then
      f144_22 call h
    else
      ag_gR h l0 11 29 fun x1 =>
      ag_xI h x1 102 l1 fun x2 =>
      if x2 = (ag_lit 0) then
        f144_22 call h
      else
        f144_23 call (ag_lit 1) h
set_option maxRecDepth 100000 in
set_option maxHeartbeats 4000000 in
theorem i144 (call : Nat → List ag_V → ag_H → ag_R) (B : ag_K4) (l0 : Option Nat) (l1 : Int32) (h : ag_H) : ag_in 4 call B t144 0 [some (.inr l0), some (.inl l1)] [] h = f144 call  l0 l1 h := by
  rfl
set_option maxRecDepth 100000 in
set_option maxHeartbeats 4000000 in
theorem r144 (d : Nat) (l0 : Option Nat) (l1 : Int32) (h : ag_H) : ag_run gT (d + 1) 144 [.inr l0, .inl l1] h = f144 (ag_run gT d)  l0 l1 h := by
  show ag_out 4 (ag_run gT d) t144 4000 0 [some (.inr l0), some (.inl l1)] [] h = _
  rw [ag_out_top, i144]
def f145_35 (call : Nat → List ag_V → ag_H → ag_R)  (s0 : Int32) (h : ag_H) : ag_R :=
  ag_isB s0 (some (.inl (some (.inl s0)), h))
def f145_34 (call : Nat → List ag_V → ag_H → ag_R)   (h : ag_H) : ag_R :=
  f145_35 call (ag_lit 0) h
/-- NameSpacesModel.isOpen(II)Z -/
def f145 (call : Nat → List ag_V → ag_H → ag_R)  (l0 : Option Nat) (l1 : Int32) (l2 : Int32) (h : ag_H) : ag_R :=
  ag_at h l0 11 fun a1 _ => ag_bI (call 144 [.inr (some a1), .inl l1] h) fun x3 h2 =>
  if x3 = (ag_lit 0) then
    f145_34 call h2
  else
    if l2 < (ag_lit 0) then
      f145_34 call h2
    else
      if (ag_lit 5) ≤ l2 then
        f145_34 call h2
      else
        ag_gR h2 l0 11 31 fun x4 =>
        ag_xI h2 x4 100 (((ag_lit 5) * l1) + l2) fun x5 =>
        if x5 ≤ (ag_lit 0) then
          f145_34 call h2
        else
          f145_35 call (ag_lit 1) h2
set_option maxRecDepth 100000 in
set_option maxHeartbeats 4000000 in
theorem i145 (call : Nat → List ag_V → ag_H → ag_R) (B : ag_K4) (l0 : Option Nat) (l1 : Int32) (l2 : Int32) (h : ag_H) : ag_in 4 call B t145 0 [some (.inr l0), some (.inl l1), some (.inl l2)] [] h = f145 call  l0 l1 l2 h := by
  rfl
set_option maxRecDepth 100000 in
set_option maxHeartbeats 4000000 in
theorem r145 (d : Nat) (l0 : Option Nat) (l1 : Int32) (l2 : Int32) (h : ag_H) : ag_run gT (d + 1) 145 [.inr l0, .inl l1, .inl l2] h = f145 (ag_run gT d)  l0 l1 l2 h := by
  show ag_out 4 (ag_run gT d) t145 4000 0 [some (.inr l0), some (.inl l1), some (.inl l2)] [] h = _
  rw [ag_out_top, i145]
def f175_10 (call : Nat → List ag_V → ag_H → ag_R)  (s0 : Int32) (h : ag_H) : ag_R :=
  some (.inl (some (.inl s0)), h)
/-- java/lang/Math.max(II)I -/
def f175 (call : Nat → List ag_V → ag_H → ag_R)  (l0 : Int32) (l1 : Int32) (h : ag_H) : ag_R :=
  if l0 < l1 then
    f175_10 call l1 h
  else
    f175_10 call l0 h
set_option maxRecDepth 100000 in
set_option maxHeartbeats 4000000 in
theorem i175 (call : Nat → List ag_V → ag_H → ag_R) (B : ag_K4) (l0 : Int32) (l1 : Int32) (h : ag_H) : ag_in 1 call B t175 0 [some (.inl l0), some (.inl l1)] [] h = f175 call  l0 l1 h := by
  rfl
set_option maxRecDepth 100000 in
set_option maxHeartbeats 4000000 in
theorem r175 (d : Nat) (l0 : Int32) (l1 : Int32) (h : ag_H) : ag_run gT (d + 1) 175 [.inl l0, .inl l1] h = f175 (ag_run gT d)  l0 l1 h := by
  show ag_out 1 (ag_run gT d) t175 4000 0 [some (.inl l0), some (.inl l1)] [] h = _
  rw [ag_out_top, i175]
def f176_10 (call : Nat → List ag_V → ag_H → ag_R)  (s0 : Int32) (h : ag_H) : ag_R :=
  some (.inl (some (.inl s0)), h)
/-- java/lang/Math.min(II)I -/
def f176 (call : Nat → List ag_V → ag_H → ag_R)  (l0 : Int32) (l1 : Int32) (h : ag_H) : ag_R :=
  if l1 < l0 then
    f176_10 call l1 h
  else
    f176_10 call l0 h
set_option maxRecDepth 100000 in
set_option maxHeartbeats 4000000 in
theorem i176 (call : Nat → List ag_V → ag_H → ag_R) (B : ag_K4) (l0 : Int32) (l1 : Int32) (h : ag_H) : ag_in 1 call B t176 0 [some (.inl l0), some (.inl l1)] [] h = f176 call  l0 l1 h := by
  rfl
set_option maxRecDepth 100000 in
set_option maxHeartbeats 4000000 in
theorem r176 (d : Nat) (l0 : Int32) (l1 : Int32) (h : ag_H) : ag_run gT (d + 1) 176 [.inl l0, .inl l1] h = f176 (ag_run gT d)  l0 l1 h := by
  show ag_out 1 (ag_run gT d) t176 4000 0 [some (.inl l0), some (.inl l1)] [] h = _
  rw [ag_out_top, i176]

/-! THE CLASS'S METHODS: bind, mount, unmount, to their ends -/
def bgn : zW := (0, 0, 0, true)
def kJn (P : Nat → List zP) (j : Nat) (S : zS) (ns : List Nat) (hw : Nat) (m : zM) : zS × (Nat → List zP) × (Nat ⊕ Nat) := match kWk P j ns S bgn with
  | (S', .inl e) => (kGo S' m.1 m.2.1, P, .inl (thW e))
  | (S', .inr W) => kJ2 P j S' W hw m
section BIND
variable {z sl d : Nat} {M : Nat → Nat → Int32} {pm : Nat → Nat → Nat} {S : zS} {Q : Nat → Option Nat} {Y : zY} {X : zX} {W : zW} {h : ag_H} {s x : Nat} {F G : List (Nat × Nat)} {p f j : Nat}
theorem CA.c103 (hC : CA z sl M pm S Q Y X W h) (hj : j < 4) {ns : List Nat} (hns : X.2.2.1 = some ns) (hO : OW S F) (h0 : (0, 0) ∈ F) (hF : F.length + 1 < 128) (hW : WK S bgn) (hP : PM Y.1 j F) {m : zM} {hw : Nat} (h7 : hw < 7) (hm : m.1 < 2) (hmF : (m.1, m.2.1) ∈ F) (hm3 : m.2.2 = decide (hw / 4 = 1)) :
    (∀ e, (kJn Y.1 j S ns hw m).2.2 = .inl e → ∃ h' H' W', ag_run gT (d + 6) 103 [.inr (some 0), .inr (some (34 + 49 * j)), .inl (nI m.1), .inl (nI m.2.1), .inl (nI hw)] h = some (.inr e, h') ∧ CA (z + 1) (sl + 6) M pm (kJn Y.1 j S ns hw m).1 Q ((kJn Y.1 j S ns hw m).2.1, Y.2.1, H') X W' h') ∧
    ∀ n, (kJn Y.1 j S ns hw m).2.2 = .inr n → ∃ h' H' W', ag_run gT (d + 6) 103 [.inr (some 0), .inr (some (34 + 49 * j)), .inl (nI m.1), .inl (nI m.2.1), .inl (nI hw)] h = some (.inl (some (.inl (nI n))), h') ∧ CA z sl M pm (kJn Y.1 j S ns hw m).1 Q ((kJn Y.1 j S ns hw m).2.1, Y.2.1, H') X W' h' := by
  have hm2 := hO.lt hm hmF
  obtain ⟨h12, -, hn1, -⟩ := hC.nm (d := d) (b := 26) (Or.inl rfl) (show pa X 26 = some ns from hns)
  obtain ⟨h1, H1, W1, e1, C1, w1⟩ := hC.wk (d := d) (b := 26) hj (Or.inl rfl) (show pa X 26 = some ns from hns) (u := ns.length) (Nat.le_refl _) h0 (by omega) hP hO hW
  rw [List.take_length] at e1 C1 w1
  obtain ⟨o1, o2⟩ := OW.wk h0 (by omega) hP ns S bgn hO hW
  have st : ag_run gT (d + 6) 103 [.inr (some 0), .inr (some (34 + 49 * j)), .inl (nI m.1), .inl (nI m.2.1), .inl (nI hw)] h = if eI (kWk Y.1 j ns S bgn).2 = nI 0 then f103_34 (ag_run gT (d + 5)) (some 0) (some (34 + 49 * j)) (nI m.1) (nI m.2.1) (nI hw) h1 else
      ag_at h1 (some 0) 10 fun a7 _ => ag_bV (ag_run gT (d + 5) 95 [.inr (some a7), .inl (nI m.1), .inl (nI m.2.1)] h1) fun h8 =>
      ag_bV (ag_run gT (d + 5) 88 [.inl (eI (kWk Y.1 j ns S bgn).2)] h8) fun h9 =>
      f103_34 (ag_run gT (d + 5)) (some 0) (some (34 + 49 * j)) (nI m.1) (nI m.2.1) (nI hw) h9 := by
    rw [r103]
    unfold f103
    rw [hC.p5, hC.p5, hn1, hC.a0]
    show ag_bI (ag_run gT (d + 5) 92 [.inr (some 0), .inr (some (34 + 49 * j)), .inr (some 26), .inl (nI ns.length)] h) _ = _
    rw [e1, b_I, lit_0]
    rfl
  rw [st]
  unfold kJn
  have C1 : CA z sl M pm (kWk Y.1 j ns S bgn).1 Q (Y.1, Y.2.1, H1) X W1 h1 := C1
  have w1 : ∀ w, (kWk Y.1 j ns S bgn).2 = .inr w → W1 = w := w1
  rcases hx : kWk Y.1 j ns S bgn with ⟨T, r⟩
  rw [hx] at C1 w1 o1 o2
  cases r with
  | inl e =>
    have he := (o1 e rfl).2
    obtain ⟨h2, e2, C2⟩ := C1.go (d := d + 1) hm hm2
    refine ⟨fun e' he' => ?_, fun n he' => by cases he'⟩
    injection he' with he'
    subst he'
    refine ⟨_, H1, W1, ?_, C2.thr⟩
    rw [if_neg (show ¬ eI (Sum.inl e : Nat ⊕ zW) = nI 0 by show ¬ nI e = nI 0; rw [nI_eq (by omega) (by omega)]; omega), C1.a0, e2, b_V]
    show ag_bV (ag_run gT (d + 5) 88 [.inl (nI e)] h2) _ = _
    rw [r88]
    unfold f88 thW
    rw [lit8_100]
    rcases he with rfl | rfl
    · rw [if_neg (by decide), if_neg (by decide), b_Ve]
    · rw [if_pos (by decide), if_pos (by decide), b_Ve]
  | inr w =>
    obtain ⟨q1, q2, -⟩ := o2 w rfl
    have := w1 w rfl
    subst this
    obtain ⟨g1, g2⟩ := C1.f34 (d := d) hj q1 h0 hF q2 hP h7 hm hm2 hm3
    rw [if_pos (show eI (Sum.inr W1 : Nat ⊕ zW) = nI 0 from rfl)]
    refine ⟨fun e he => ?_, fun n he => ?_⟩
    · obtain ⟨h2, e2, C2⟩ := g1 e he
      exact ⟨h2, H1, W1, e2, C2⟩
    · obtain ⟨h2, e2, C2⟩ := g2 n he
      exact ⟨h2, H1, W1, e2, C2⟩
theorem CA.c72n (hC : CA z sl M pm S Q Y X W h) {v w : Int32} (hn : noP Q v) : ag_run gT (d + 7) 72 [.inr (some 0), .inl v, .inl w] h = some (.inr 0, ag_thr h) := by
  rw [r72]
  unfold f72
  rw [hC.a0, hC.c87n (d := d + 3) hn, b_Re]
theorem CA.c72a (hC : CA z sl M pm S Q Y X W h) {v w : Int32} (hp9 : isP Q v p j) (ha : pth X.1 = none ∨ pth X.2.1 = none ∨ noH w) : ∃ h', ag_run gT (d + 7) 72 [.inr (some 0), .inl v, .inl w] h = some (.inr 0, h') ∧ CA (z + 1) (sl + 6) M pm S Q Y ([], [], pth X.1, pth X.2.1) W h' := by
  obtain ⟨h1, e1, C1⟩ := hC.c87 (d := d + 3) hp9
  refine ⟨_, ?_, C1.thr⟩
  rw [r72]
  unfold f72 f72_33
  rw [hC.a0, e1, b_R, C1.p5, C1.pp (Or.inl rfl), lit_0]
  show (if bI (pth X.1).isSome = nI 0 then _ else _) = _
  by_cases h1 : pth X.1 = none
  · rw [h1, if_pos (show bI (none : Option (List Nat)).isSome = nI 0 from rfl)]
  · have h2 := ha.resolve_left h1
    obtain ⟨ns, hns⟩ := Option.ne_none_iff_exists'.mp h1
    rw [hns, if_neg (show ¬ bI (some ns).isSome = nI 0 from (show ¬ bI true = nI 0 by decide)), C1.p6, C1.pp (Or.inr rfl)]
    show (if bI (pth X.2.1).isSome = nI 0 then _ else _) = _
    by_cases h3 : pth X.2.1 = none
    · rw [h3, if_pos (show bI (none : Option (List Nat)).isSome = nI 0 from rfl)]
    · obtain ⟨nk, hnk⟩ := Option.ne_none_iff_exists'.mp h3
      rw [hnk, if_neg (show ¬ bI (some nk).isSome = nI 0 from (show ¬ bI true = nI 0 by decide)), c81n (h2.resolve_left h3), b_I, if_pos rfl]
/-- what bind does behind its tests -/
def kBd (P : Nat → List zP) (j : Nat) (S : zS) (ns nk : List Nat) (hw : Nat) : zS × (Nat → List zP) × (Nat ⊕ Nat) := match kWk P j nk S bgn with
  | (S', .inl e) => (S', P, .inl (thW e))
  | (S', .inr W) => if W.2.2.2 = false then (kGo S' W.1 W.2.1, P, .inl 3) else kJn P j (kOwn S' W).1 ns hw (W.1, (kOwn S' W).2, decide (hw / 4 = 1))
theorem CA.c72 (hC : CA z sl M pm S Q Y X W h) {v w : Int32} (hp9 : isP Q v p j) {ns nk : List Nat} (hns : pth X.1 = some ns) (hnk : pth X.2.1 = some nk) {hw : Nat} (hh : isH w hw) (h0 : (0, 0) ∈ F) (hl : F.length + 4 < 128) (hP : PM Y.1 j F) (hO : OW S F) (hW : WK S bgn) :
    (∀ e, (kBd Y.1 j S ns nk hw).2.2 = .inl e → ∃ h' H' W', ag_run gT (d + 7) 72 [.inr (some 0), .inl v, .inl w] h = some (.inr e, h') ∧ CA (z + 1) (sl + 6) M pm (kBd Y.1 j S ns nk hw).1 Q ((kBd Y.1 j S ns nk hw).2.1, Y.2.1, H') ([], [], pth X.1, pth X.2.1) W' h') ∧
    ∀ n, (kBd Y.1 j S ns nk hw).2.2 = .inr n → ∃ h' H' W', ag_run gT (d + 7) 72 [.inr (some 0), .inl v, .inl w] h = some (.inl (some (.inl (nI n))), h') ∧ CA z sl M pm (kBd Y.1 j S ns nk hw).1 Q ((kBd Y.1 j S ns nk hw).2.1, Y.2.1, H') ([], [], pth X.1, pth X.2.1) W' h' := by
  obtain ⟨h1, e1, C1⟩ := hC.c87 (d := d + 3) hp9
  have hv7 := hh.1
  have e81 := c81 (d := d + 5) (h := h1) hh
  obtain ⟨-, -, rfl⟩ := hh
  obtain ⟨hp4, hv, hq⟩ := hp9
  have hj := hC.q4 hp4 hq
  obtain ⟨h12, -, hn1, -⟩ := C1.nm (d := d) (b := 28) (Or.inr rfl) hnk
  obtain ⟨w1, w2⟩ := C1.wo (d := d) (b := 28) hj (Or.inr rfl) hnk (u := nk.length) (Nat.le_refl _) h0 (by omega) hP hO hW
  rw [List.take_length] at w1 w2
  obtain ⟨o1, o2⟩ := OW.wk h0 (by omega) hP nk S bgn hO hW
  have kp := kp_wk h0 (by omega) hP nk S bgn hO hW
  have sf := SF.wk (P := Y.1) (j := j) nk S bgn
  have start : ag_run gT (d + 7) 72 [.inr (some 0), .inl v, .inl (nI hw)] h = ag_bV (ag_run gT (d + 6) 91 [.inr (some 0), .inr (some (34 + 49 * j)), .inr (some 28), .inl (nI nk.length)] h1) fun h15 =>
        ag_gI h15 (some 0) 10 12 fun x16 =>
        if x16 = nI 0 then
          ag_gI h15 (some 0) 10 9 fun x25 =>
          ag_gI h15 (some 0) 10 10 fun x26 =>
          ag_at h15 (some 0) 10 fun a27 _ => ag_bV (ag_run gT (d + 6) 95 [.inr (some a27), .inl x25, .inl x26] h15) fun h28 =>
          some (.inr 3, ag_thr h28)
        else
          ag_at h15 (some 0) 10 fun a17 _ => ag_bI (ag_run gT (d + 6) 97 [.inr (some a17)] h15) fun x19 h18 =>
          ag_gR h18 (some (56 + 49 * p)) 6 1 fun x20 =>
          ag_gI h18 (some 0) 10 9 fun x21 =>
          ag_at h18 (some 0) 10 fun a22 _ => ag_bI (ag_run gT (d + 6) 103 [.inr (some a22), .inr x20, .inl x21, .inl x19, .inl (nI hw)] h18) fun x24 h23 =>
          some (.inl (some (.inl x24)), h23) := by
    rw [r72]
    unfold f72
    rw [hC.a0, e1, b_R, C1.p5, C1.pp (Or.inl rfl), lit_0]
    show (if bI (pth X.1).isSome = nI 0 then _ else _) = _
    rw [hns, if_neg (show ¬ bI (some ns).isSome = nI 0 from (show ¬ bI true = nI 0 by decide)), C1.p6, C1.pp (Or.inr rfl)]
    show (if bI (pth X.2.1).isSome = nI 0 then _ else _) = _
    rw [hnk, if_neg (show ¬ bI (some nk).isSome = nI 0 from (show ¬ bI true = nI 0 by decide)), e81, b_I, if_neg (show ¬ nI 1 = nI 0 by decide), C1.f1 hp4, hq, C1.p6, C1.p6, hn1, C1.a0]
    rfl
  rw [start]
  unfold kBd
  have w1 : ∀ e, (kWk Y.1 j nk S bgn).2 = .inl e → ∃ h' H' W', ag_run gT (d + 6) 91 [.inr (some 0), .inr (some (34 + 49 * j)), .inr (some 28), .inl (nI nk.length)] h1 = some (.inr (thW e), h') ∧ CA (z + 1) (sl + 6) M pm (kWk Y.1 j nk S bgn).1 Q (Y.1, Y.2.1, H') ([], [], pth X.1, pth X.2.1) W' h' := w1
  have w2 : ∀ w, (kWk Y.1 j nk S bgn).2 = .inr w → ∃ h' H', ag_run gT (d + 6) 91 [.inr (some 0), .inr (some (34 + 49 * j)), .inr (some 28), .inl (nI nk.length)] h1 = some (.inl none, h') ∧ CA z sl M pm (kWk Y.1 j nk S bgn).1 Q (Y.1, Y.2.1, H') ([], [], pth X.1, pth X.2.1) w h' := w2
  rcases hx : kWk Y.1 j nk S bgn with ⟨T, r⟩
  rw [hx] at w1 w2 o1 o2 kp sf
  cases r with
  | inl e =>
    obtain ⟨h2, H2, W2, e2, C2⟩ := w1 e rfl
    refine ⟨fun e' he' => ?_, fun n he' => by cases he'⟩
    injection he' with he'
    subst he'
    exact ⟨h2, H2, W2, by rw [e2, b_Ve], C2⟩
  | inr w =>
    obtain ⟨h2, H2, e2, C2⟩ := w2 w rfl
    obtain ⟨q1, q2, -⟩ := o2 w rfl
    have hx := q1.lt q2.1 (fl_mem h0)
    dsimp only
    by_cases hd : w.2.2.2 = false
    · rw [if_pos hd]
      obtain ⟨h3, e3, C3⟩ := C2.go (d := d + 2) q2.1 hx
      refine ⟨fun e' he' => ?_, fun n he' => by cases he'⟩
      injection he' with he'
      subst he'
      refine ⟨_, H2, w, ?_, C3.thr⟩
      rw [e2, b_V, C2.g12, hd, if_pos (show bI false = nI 0 from rfl), C2.g9, C2.g10, C2.a0, e3, b_V]
    · rw [if_neg hd]
      have hd : w.2.2.2 = true := by simpa using hd
      obtain ⟨h3, e3, C3⟩ := C2.own (d := d + 2) q1 h0 (by omega) q2.1
      have O3 := q1.own h0 (by omega) q2.1
      have kp3 := kp.trans (kp_own q1 (by omega) q2.1)
      have sf3 := sf.trans (SF.own T w)
      have W3 : WK (kOwn T w).1 bgn := hW.keep sf3 kp3 h0
      obtain ⟨g1, g2⟩ := C3.c103 (d := d) hj hns (F := (w.1, (kOwn T w).2) :: F) O3 (by simp [h0]) (by simp; omega) W3 (fun p hp9 m hm => ⟨(hP p hp9 m hm).1, by simp [(hP p hp9 m hm).2]⟩) (m := (w.1, (kOwn T w).2, decide (hw / 4 = 1))) hv7 q2.1 (by simp) rfl
      refine ⟨fun e he => ?_, fun n he => ?_⟩
      · obtain ⟨h4, H4, W4, e4, C4⟩ := g1 e he
        refine ⟨h4, H4, W4, ?_, C4⟩
        rw [e2, b_V, C2.g12, hd, if_neg (show ¬ bI true = nI 0 by decide), C2.a0, e3, b_I, C3.f1 hp4, hq, C3.g9, C3.a0]
        show ag_bI (ag_run gT (d + 6) 103 [.inr (some 0), .inr (some (34 + 49 * j)), .inl (nI w.1), .inl (nI (kOwn T w).2), .inl (nI hw)] h3) _ = _
        rw [e4, b_Ie]
      · obtain ⟨h4, H4, W4, e4, C4⟩ := g2 n he
        refine ⟨h4, H4, W4, ?_, C4⟩
        rw [e2, b_V, C2.g12, hd, if_neg (show ¬ bI true = nI 0 by decide), C2.a0, e3, b_I, C3.f1 hp4, hq, C3.g9, C3.a0]
        show ag_bI (ag_run gT (d + 6) 103 [.inr (some 0), .inr (some (34 + 49 * j)), .inl (nI w.1), .inl (nI (kOwn T w).2), .inl (nI hw)] h3) _ = _
        rw [e4, b_I]
/-- mount -/
def isS (v : Int32) (s : Nat) : Prop := s < 2 ∧ v = nI s
def noS (v : Int32) : Prop := ∀ s, s < 2 → v ≠ nI s
theorem S_or (v : Int32) : (∃ s, isS v s) ∨ noS v := by
  by_cases h : ∃ m, m < 2 ∧ v = nI m
  · exact Or.inl h
  · exact Or.inr fun m hm hv => h ⟨m, hm, hv⟩
theorem CA.c73n (hC : CA z sl M pm S Q Y X W h) {v u w : Int32} (hn : noP Q v) : ag_run gT (d + 7) 73 [.inr (some 0), .inl v, .inl u, .inl w] h = some (.inr 0, ag_thr h) := by
  rw [r73]
  unfold f73
  rw [hC.a0, hC.c87n (d := d + 3) hn, b_Re]
theorem CA.c73a (hC : CA z sl M pm S Q Y X W h) {v u w : Int32} (hp9 : isP Q v p j) (ha : pth X.1 = none ∨ noS u ∨ noH w) : ∃ h', ag_run gT (d + 7) 73 [.inr (some 0), .inl v, .inl u, .inl w] h = some (.inr 0, h') ∧ CA (z + 1) (sl + 6) M pm S Q Y ([], [], pth X.1, pth X.2.1) W h' := by
  obtain ⟨h1, e1, C1⟩ := hC.c87 (d := d + 3) hp9
  refine ⟨_, ?_, C1.thr⟩
  rw [r73]
  unfold f73 f73_31
  rw [hC.a0, e1, b_R, C1.p5, C1.pp (Or.inl rfl), lit_0]
  show (if bI (pth X.1).isSome = nI 0 then _ else _) = _
  by_cases h1 : pth X.1 = none
  · rw [h1, if_pos (show bI (none : Option (List Nat)).isSome = nI 0 from rfl)]
  · have h2 := ha.resolve_left h1
    obtain ⟨ns, hns⟩ := Option.ne_none_iff_exists'.mp h1
    rw [hns, if_neg (show ¬ bI (some ns).isSome = nI 0 from (show ¬ bI true = nI 0 by decide))]
    rcases S_or u with ⟨t, ht, rfl⟩ | hu
    · have h3 : noH w := h2.resolve_left (fun h => h t ht rfl)
      rw [c80 ht, b_I, if_neg (show ¬ nI 1 = nI 0 by decide), c81n h3, b_I, if_pos rfl]
    · rw [c80n hu, b_I, if_pos rfl]
def kMt (P : Nat → List zP) (j : Nat) (S : zS) (ns : List Nat) (s hw : Nat) : zS × (Nat → List zP) × (Nat ⊕ Nat) := kJn P j (kAtt S s (fre S s)) ns hw (s, fre S s, decide (hw / 4 = 1))
theorem CA.c73 (hC : CA z sl M pm S Q Y X W h) {v u w : Int32} (hp9 : isP Q v p j) {ns : List Nat} (hns : pth X.1 = some ns) (hu : isS u s) {hw : Nat} (hh : isH w hw) (h0 : (0, 0) ∈ F) (hl : F.length + 4 < 128) (hP : PM Y.1 j F) (hO : OW S F) (hW : WK S bgn) :
    (∀ e, (kMt Y.1 j S ns s hw).2.2 = .inl e → ∃ h' H' W', ag_run gT (d + 7) 73 [.inr (some 0), .inl v, .inl u, .inl w] h = some (.inr e, h') ∧ CA (z + 1) (sl + 6) M pm (kMt Y.1 j S ns s hw).1 Q ((kMt Y.1 j S ns s hw).2.1, Y.2.1, H') ([], [], pth X.1, pth X.2.1) W' h') ∧
    ∀ n, (kMt Y.1 j S ns s hw).2.2 = .inr n → ∃ h' H' W', ag_run gT (d + 7) 73 [.inr (some 0), .inl v, .inl u, .inl w] h = some (.inl (some (.inl (nI n))), h') ∧ CA z sl M pm (kMt Y.1 j S ns s hw).1 Q ((kMt Y.1 j S ns s hw).2.1, Y.2.1, H') ([], [], pth X.1, pth X.2.1) W' h' := by
  obtain ⟨h1, e1, C1⟩ := hC.c87 (d := d + 3) hp9
  have hv7 := hh.1
  have e81 := c81 (d := d + 5) (h := h1) hh
  obtain ⟨-, -, rfl⟩ := hh
  obtain ⟨hs, rfl⟩ := hu
  have e80 := c80 (d := d + 5) (h := h1) hs
  obtain ⟨hp4, hv, hq⟩ := hp9
  have hj := hC.q4 hp4 hq
  obtain ⟨f1, f2, f3, f4⟩ := hO.free hs (by omega)
  obtain ⟨h2, t2, q2, t2', r2, e2, C2⟩ := C1.to (d := d + 5) hs
  have e3 := C2.c35 (d := d + 5) hs f1
  have e3 : ag_run gT (d + 6) 35 [.inr (some (2 + 9 * s))] h2 = some (.inl (some (.inl (nI (fre S s)))), h2) := e3
  obtain ⟨h4, e4, C4⟩ := C2.c37 (d := d + 3) (s := s) rfl f2
  have C4 : CA z sl M pm (kAtt S s (fre S s)) Q Y ([], [], pth X.1, pth X.2.1) W h4 := C4
  have O4 := hO.att hs (by omega)
  have W4 : WK (kAtt S s (fre S s)) bgn := hW.keep (SF.att S s _) (kp_att hO hs (by omega)) h0
  obtain ⟨g1, g2⟩ := C4.c103 (d := d) hj hns (F := (s, fre S s) :: F) O4 (by simp [h0]) (by simp; omega) W4 (fun p hp9 m hm => ⟨(hP p hp9 m hm).1, by simp [(hP p hp9 m hm).2]⟩) (m := (s, fre S s, decide (hw / 4 = 1))) hv7 hs (by simp) rfl
  have start : ag_run gT (d + 7) 73 [.inr (some 0), .inl v, .inl (nI s), .inl (nI hw)] h = ag_bI (ag_run gT (d + 6) 103 [.inr (some 0), .inr (some (34 + 49 * j)), .inl (nI s), .inl (nI (fre S s)), .inl (nI hw)] h4) fun x21 h20 =>
        some (.inl (some (.inl x21)), h20) := by
    rw [r73]
    unfold f73
    rw [hC.a0, e1, b_R, C1.p5, C1.pp (Or.inl rfl), lit_0]
    show (if bI (pth X.1).isSome = nI 0 then _ else _) = _
    rw [hns, if_neg (show ¬ bI (some ns).isSome = nI 0 from (show ¬ bI true = nI 0 by decide)), e80, b_I, if_neg (show ¬ nI 1 = nI 0 by decide), e81, b_I, if_neg (show ¬ nI 1 = nI 0 by decide), C1.a0, e2, b_R, C2.as hs, e3, b_I, C2.as hs, e4, b_V, C4.f1 hp4, hq, C4.a0]
    rfl
  rw [start]
  refine ⟨fun e he => ?_, fun n he => ?_⟩
  · obtain ⟨h5, H5, W5, e5, C5⟩ := g1 e he
    exact ⟨h5, H5, W5, by rw [e5, b_Ie], C5⟩
  · obtain ⟨h5, H5, W5, e5, C5⟩ := g2 n he
    exact ⟨h5, H5, W5, by rw [e5, b_I], C5⟩
/-- unmount -/
theorem CA.c74n (hC : CA z sl M pm S Q Y X W h) {v : Int32} (hn : noP Q v) : ag_run gT (d + 7) 74 [.inr (some 0), .inl v] h = some (.inr 0, ag_thr h) := by
  rw [r74]
  unfold f74
  rw [hC.a0, hC.c87n (d := d + 3) hn, b_Re]
theorem CA.c74a (hC : CA z sl M pm S Q Y X W h) {v : Int32} (hp9 : isP Q v p j) (ha : pth X.1 = none) : ∃ h', ag_run gT (d + 7) 74 [.inr (some 0), .inl v] h = some (.inr 0, h') ∧ CA (z + 1) (sl + 6) M pm S Q Y ([], [], pth X.1, pth X.2.1) W h' := by
  obtain ⟨h1, e1, C1⟩ := hC.c87 (d := d + 3) hp9
  refine ⟨_, ?_, C1.thr⟩
  rw [r74]
  unfold f74
  rw [hC.a0, e1, b_R, C1.p5, C1.pp (Or.inl rfl), lit_0]
  show (if bI (pth X.1).isSome = nI 0 then _ else _) = _
  rw [ha, if_pos (show bI (none : Option (List Nat)).isSome = nI 0 from rfl)]
def kUm (P : Nat → List zP) (j : Nat) (S : zS) (ns : List Nat) : zS × (Nat → List zP) × (Nat ⊕ Nat) := match kWk P j ns S bgn with
  | (S', .inl e) => (S', P, .inl (thW e))
  | (S', .inr W) => match pidx (P j) W.1 W.2.2.1 with
    | none => (kGo S' W.1 W.2.1, P, .inl 3)
    | some k => (kGo (kClA S' ((P j).getD k dP).2) W.1 W.2.1, up1 P j ((P j).eraseIdx k), .inr ((P j).eraseIdx k).length)
theorem CA.c74 (hC : CA z sl M pm S Q Y X W h) {v : Int32} (hp9 : isP Q v p j) {ns : List Nat} (hns : pth X.1 = some ns) (h0 : (0, 0) ∈ F) (hl : F.length + 4 < 128) (hP : PM Y.1 j F) (hO : OW S F) (hW : WK S bgn) :
    (∀ e, (kUm Y.1 j S ns).2.2 = .inl e → ∃ h' H' W', ag_run gT (d + 7) 74 [.inr (some 0), .inl v] h = some (.inr e, h') ∧ CA (z + 1) (sl + 6) M pm (kUm Y.1 j S ns).1 Q ((kUm Y.1 j S ns).2.1, Y.2.1, H') ([], [], pth X.1, pth X.2.1) W' h') ∧
    ∀ n, (kUm Y.1 j S ns).2.2 = .inr n → ∃ h' H' W' pm', ag_run gT (d + 7) 74 [.inr (some 0), .inl v] h = some (.inl (some (.inl (nI n))), h') ∧ CA z sl M pm' (kUm Y.1 j S ns).1 Q ((kUm Y.1 j S ns).2.1, Y.2.1, H') ([], [], pth X.1, pth X.2.1) W' h' := by
  obtain ⟨h1, e1, C1⟩ := hC.c87 (d := d + 3) hp9
  obtain ⟨hp4, hv, hq⟩ := hp9
  have hj := hC.q4 hp4 hq
  obtain ⟨h12, -, hn1, -⟩ := C1.nm (d := d) (b := 26) (Or.inl rfl) hns
  obtain ⟨w1, w2⟩ := C1.wo (d := d) (b := 26) hj (Or.inl rfl) hns (u := ns.length) (Nat.le_refl _) h0 (by omega) hP hO hW
  rw [List.take_length] at w1 w2
  obtain ⟨o1, o2⟩ := OW.wk h0 (by omega) hP ns S bgn hO hW
  have start : ag_run gT (d + 7) 74 [.inr (some 0), .inl v] h = ag_bV (ag_run gT (d + 6) 91 [.inr (some 0), .inr (some (34 + 49 * j)), .inr (some 26), .inl (nI ns.length)] h1) fun h11 =>
    ag_gR h11 (some (56 + 49 * p)) 6 1 fun x12 =>
    ag_gI h11 (some 0) 10 9 fun x13 =>
    ag_gI h11 (some 0) 10 11 fun x14 =>
    ag_at h11 x12 2 fun a15 _ => ag_bI (ag_run gT (d + 6) 14 [.inr (some a15), .inl x13, .inl x14] h11) fun x17 h16 =>
    ag_gR h16 (some (56 + 49 * p)) 6 1 fun x18 =>
    ag_at h16 x18 2 fun a19 _ => ag_bR (ag_run gT (d + 6) 15 [.inr (some a19), .inl x17] h16) fun x21 h20 =>
    if x21 = none then
      ag_gI h20 (some 0) 10 9 fun x34 =>
      ag_gI h20 (some 0) 10 10 fun x35 =>
      ag_at h20 (some 0) 10 fun a36 _ => ag_bV (ag_run gT (d + 6) 95 [.inr (some a36), .inl x34, .inl x35] h20) fun h37 =>
      some (.inr 3, ag_thr h37)
    else
      ag_gR h20 x21 5 0 fun x22 =>
      ag_at h20 (some 0) 10 fun a23 _ => ag_bV (ag_run gT (d + 6) 96 [.inr (some a23), .inr x22] h20) fun h24 =>
      ag_gI h24 (some 0) 10 9 fun x25 =>
      ag_gI h24 (some 0) 10 10 fun x26 =>
      ag_at h24 (some 0) 10 fun a27 _ => ag_bV (ag_run gT (d + 6) 95 [.inr (some a27), .inl x25, .inl x26] h24) fun h28 =>
      ag_gR h28 (some (56 + 49 * p)) 6 1 fun x29 =>
      ag_at h28 x29 2 fun a30 _ => ag_bV (ag_run gT (d + 6) 17 [.inr (some a30), .inl x17] h28) fun h31 =>
      ag_gR h31 (some (56 + 49 * p)) 6 1 fun x32 =>
      ag_gI h31 x32 2 1 fun x33 =>
      some (.inl (some (.inl x33)), h31) := by
    rw [r74]
    unfold f74
    rw [hC.a0, e1, b_R, C1.p5, C1.pp (Or.inl rfl), lit_0]
    show (if bI (pth X.1).isSome = nI 0 then _ else _) = _
    rw [hns, if_neg (show ¬ bI (some ns).isSome = nI 0 from (show ¬ bI true = nI 0 by decide)), C1.f1 hp4, hq, C1.p5, C1.p5, hn1, C1.a0]
    rfl
  rw [start]
  unfold kUm
  have w1 : ∀ e, (kWk Y.1 j ns S bgn).2 = .inl e → ∃ h' H' W', ag_run gT (d + 6) 91 [.inr (some 0), .inr (some (34 + 49 * j)), .inr (some 26), .inl (nI ns.length)] h1 = some (.inr (thW e), h') ∧ CA (z + 1) (sl + 6) M pm (kWk Y.1 j ns S bgn).1 Q (Y.1, Y.2.1, H') ([], [], pth X.1, pth X.2.1) W' h' := w1
  have w2 : ∀ w, (kWk Y.1 j ns S bgn).2 = .inr w → ∃ h' H', ag_run gT (d + 6) 91 [.inr (some 0), .inr (some (34 + 49 * j)), .inr (some 26), .inl (nI ns.length)] h1 = some (.inl none, h') ∧ CA z sl M pm (kWk Y.1 j ns S bgn).1 Q (Y.1, Y.2.1, H') ([], [], pth X.1, pth X.2.1) w h' := w2
  rcases hx : kWk Y.1 j ns S bgn with ⟨T, r⟩
  rw [hx] at w1 w2 o1 o2
  cases r with
  | inl e =>
    obtain ⟨h2, H2, W2, e2, C2⟩ := w1 e rfl
    refine ⟨fun e' he' => ?_, fun n he' => by cases he'⟩
    injection he' with he'
    subst he'
    exact ⟨h2, H2, W2, by rw [e2, b_Ve], C2⟩
  | inr w =>
    obtain ⟨h2, H2, e2, C2⟩ := w2 w rfl
    obtain ⟨q1, q2, -⟩ := o2 w rfl
    have hx := q1.lt q2.1 (fl_mem h0)
    have hi3 : w.2.2.1 < 300 := by
      have h1 := (q1.1 w.1 q2.1).2.2.2.1 _ _ q2.2.1
      have h2 := (q1.1 w.1 q2.1).2.1
      omega
    have e3 := C2.n14 (d := d + 5) hj q2.1 hi3
    have e4 := C2.n15 (d := d + 5) hj (o := pidx (Y.1 j) w.1 w.2.2.1) (fun k h => pidx_lt h)
    dsimp only
    rw [e2, b_V, C2.f1 hp4, hq, C2.g9, C2.g11, Option.map_some, C2.an hj, e3, b_I, C2.f1 hp4, hq, Option.map_some, C2.an hj]
    show (∀ e, _ = _ → ∃ h' H' W', ag_bR (ag_run gT (d + 6) 15 [.inr (some (34 + 49 * j)), .inl (pI (pidx (Y.1 j) w.1 w.2.2.1))] h2) _ = _ ∧ _) ∧ (∀ n, _ = _ → ∃ h' H' W' pm', ag_bR (ag_run gT (d + 6) 15 [.inr (some (34 + 49 * j)), .inl (pI (pidx (Y.1 j) w.1 w.2.2.1))] h2) _ = _ ∧ _)
    rw [e4, b_R]
    cases hpx : pidx (Y.1 j) w.1 w.2.2.1 with
    | none =>
      obtain ⟨h3, e5, C3⟩ := C2.go (d := d + 2) q2.1 hx
      refine ⟨fun e' he' => ?_, fun n he' => by cases he'⟩
      injection he' with he'
      subst he'
      refine ⟨_, H2, w, ?_, C3.thr⟩
      rw [Option.map_none, if_pos rfl, C2.g9, C2.g10, C2.a0, e5, b_V]
    | some k =>
      have hkl := pidx_lt hpx
      have hkl2 : k < (Y.1 j).length := hkl
      have hL := C2.ap5 hj hkl
      have hv2 : ∀ m ∈ ((Y.1 j).getD k dP).2, m.1 < 2 ∧ m.2.1 < 128 := fun m h => ⟨(hP _ (getD_memP hkl) m h).1, q1.lt (hP _ (getD_memP hkl) m h).1 (List.mem_append_right _ (hP _ (getD_memP hkl) m h).2)⟩
      obtain ⟨h3, e5, C3⟩ := C2.cla (d := d + 2) hL hv2
      obtain ⟨h4, e6, C4⟩ := C3.go (d := d + 2) q2.1 hx
      obtain ⟨h5, pm5, e7, C5⟩ := C4.n17 (d := d + 5) hj hkl
      refine ⟨fun e' he' => (by cases he'), fun n he' => ?_⟩
      injection he' with he'
      rw [← he']
      refine ⟨h5, H2, w, pm5, ?_, C5⟩
      rw [Option.map_some, if_neg (by simp), C2.np hj hkl, C2.a0, e5, b_V, C3.g9, C3.g10, C3.a0, e6, b_V, C4.f1 hp4, hq, Option.map_some, C4.an hj]
      show ag_bV (ag_run gT (d + 6) 17 [.inr (some (34 + 49 * j)), .inl (nI k)] h4) _ = _
      rw [e7, b_V, C5.f1 hp4, hq, Option.map_some, C5.nc hj]
      show some (Sum.inl (some (Sum.inl (nI (up1 Y.1 j ((Y.1 j).eraseIdx k) j).length))), h5) = _
      rw [up1_eq]
end BIND

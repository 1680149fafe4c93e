/-! OPENING: taking handles, opening them, closing -/
section OPH
variable {z sl d : Nat} {M : Nat → Nat → Int32} {pm : Nat → Nat → Nat} {S : zS} {Q : Nat → Option Nat} {Y : zY} {X : zX} {W : zW} {h : ag_H} {s x : Nat} {F G : List (Nat × Nat)} {p f j : Nat}
theorem sU_lset (Y : zY) (p f : Nat) (ms : List zM) (v : Nat) : sU (lset Y (2, p, f) ms) p f (((lset Y (2, p, f) ms).2.1 p f).1, ((lset Y (2, p, f) ms).2.1 p f).2.1, v, ((lset Y (2, p, f) ms).2.1 p f).2.2.2) = sU Y p f ((Y.2.1 p f).1, ms, v, (Y.2.1 p f).2.2.2) := by
  show (Y.1, up2 (up2 Y.2.1 p f ((Y.2.1 p f).1, ms, (Y.2.1 p f).2.2)) p f ((up2 Y.2.1 p f ((Y.2.1 p f).1, ms, (Y.2.1 p f).2.2) p f).1, (up2 Y.2.1 p f ((Y.2.1 p f).1, ms, (Y.2.1 p f).2.2) p f).2.1, v, (up2 Y.2.1 p f ((Y.2.1 p f).1, ms, (Y.2.1 p f).2.2) p f).2.2.2), Y.2.2) = (Y.1, up2 Y.2.1 p f _, Y.2.2)
  rw [up2_eq, up2_up2]
theorem OW.goh (hO : OW S ((s, x) :: G)) (h0 : (0, 0) ∈ G) (hs : s < 2) : OW (kGo S s x) G ∧ ¬ (s = 0 ∧ x = 0) := by
  have hne : ¬ (s = 0 ∧ x = 0) := by
    rintro ⟨rfl, rfl⟩
    have := hO.2 0 0 (by decide)
    rw [List.count_cons_self] at this
    have h1 := List.count_pos_iff.mpr h0
    split at this <;> omega
  refine ⟨?_, hne⟩
  unfold kGo
  rw [if_neg hne]
  have := hO.cl (h := x) hs (by simp)
  rw [List.erase_cons_head] at this
  exact this
theorem OW.tk {P : Nat → List zP} (hO : OW S (fl W ++ F)) (h0 : (0, 0) ∈ F) (hl : F.length + 4 < 128) (hw : W.1 < 2) (hP : PM P j F) (h3 : ∀ q ∈ P j, q.2.length ≤ 3) : OW (kTk P j S W).1 ((kTk P j S W).2.map hp2 ++ F) := by
  unfold kTk
  cases hp9 : pidx (P j) W.1 W.2.2.1 with
  | none => exact hO.own h0 (by omega) hw
  | some k =>
    have hm := getD_memP (pidx_lt hp9)
    have := fl_len W F
    have h3' := h3 _ hm
    exact fl_go (OW.cpy _ S _ hO (by omega) (fun m h => ⟨(hP _ hm m h).1, List.mem_append_right _ (hP _ hm m h).2⟩)) hw
theorem CA.tk (hC : CA z sl M pm S Q Y X W h) (hp9 : p < 4) (hf : f < 5) (hj : j < 4) (hO : OW S (fl W ++ F)) (h0 : (0, 0) ∈ F) (hl : F.length + 4 < 128) (hw : W.1 < 2) (hi : W.2.2.1 < 300) (hP : PM Y.1 j F) : ∃ h' H, ag_run gT (d + 5) 98 [.inr (some 0), .inr (some (34 + 49 * j)), .inr (some (58 + 49 * p + 5 * f))] h = some (.inl none, h') ∧ CA z sl M pm (kTk Y.1 j S W).1 Q (sU (Y.1, Y.2.1, H) p f ((Y.2.1 p f).1, (kTk Y.1 j S W).2, (kTk Y.1 j S W).2.length, (Y.2.1 p f).2.2.2)) X W h' := by
  have hL : LV Y (2, p, f) := Or.inr (Or.inr ⟨p, f, rfl, hp9, hf⟩)
  have hm := fl_mem (W := W) h0
  have hx := hO.lt hw hm
  have hfl := fl_len W F
  obtain ⟨h1, e1, C1⟩ := hC.hz hL
  rw [r98]
  unfold f98 f98_64 kTk
  rw [hC.u0 hp9 hf, lit_0, e1, C1.g9, C1.g11, C1.an hj, C1.n14 hj hw hi, b_I]
  show ∃ h' H, (if nI 0 ≤ pI (pidx (Y.1 j) W.1 W.2.2.1) then _ else _) = _ ∧ _
  cases hpx : pidx (Y.1 j) W.1 W.2.2.1 with
  | none =>
    rw [if_neg (show ¬ nI 0 ≤ pI none by decide), C1.g9, C1.a0]
    obtain ⟨h2, e2, C2⟩ := C1.own (d := d) hO h0 (by omega) hw
    obtain ⟨l1, l2, l3⟩ := LS2 Y hp9 hf []
    obtain ⟨h3, e3, C3⟩ := C2.h1f (d := d + 3) l1 (by rw [l2]; decide) (W.1, (kOwn S W).2, false)
    rw [l2, l3] at C3
    obtain ⟨m1, m2, m3⟩ := LS2 Y hp9 hf [(W.1, (kOwn S W).2, false)]
    obtain ⟨h4, e4, C4⟩ := C3.v2 hp9 hf 1
    rw [sU_lset] at C4
    refine ⟨h4, Y.2.2, ?_, C4⟩
    have e3' : ag_run gT (d + 4) 1 [.inr (some (lad pm (2, p, f))), .inl (nI 0), .inl (nI W.1), .inl (nI (kOwn S W).2), .inl (nI 0)] h2 = some (.inl none, h3) := e3
    rw [e2, b_I, C2.ah l1, e3', b_V, C3.hn m1, m2]
    exact e4 _
  | some k =>
    have hk := pidx_lt hpx
    have h4 := (hC.nl hj).1
    rw [if_pos (show nI 0 ≤ pI (some k) from nI_le (by omega) (by omega)), C1.a0]
    obtain ⟨h2, H, e2, C2, -, -⟩ := C1.std (d := d + 2) hj hw hi
    have hst : stL Y.1 j W = (1, j, k) := by unfold stL; rw [hpx]
    have e2' : ag_run gT (d + 4) 93 [.inr (some 0), .inr (some (34 + 49 * j))] h1 = some (.inl (some (.inr (some (lad pm (1, j, k))))), h2) := by rw [← hst]; exact e2
    have C2' : CA z sl M pm S Q (lset (Y.1, Y.2.1, H) (2, p, f) []) X W h2 := C2
    have hn3 : ((Y.1 j).getD k dP).2.length ≤ 3 := hC.len (L := (1, j, k)) (Or.inr (Or.inl ⟨j, k, rfl, hj, hk⟩))
    have hmem : ∀ m ∈ ((Y.1 j).getD k dP).2, m.1 < 2 ∧ (m.1, m.2.1) ∈ fl W ++ F := fun m h => ⟨(hP _ (getD_memP hk) m h).1, List.mem_append_right _ (hP _ (getD_memP hk) m h).2⟩
    obtain ⟨h5, e5, C5⟩ := CA.cpy (d := d) (LD_12 (Y.1, Y.2.1, H) hj hk hp9 hf) C2' hn3 hO (by show (fl W ++ F).length + ((Y.1 j).getD k dP).2.length ≤ 128; omega) hmem
    obtain ⟨h6, e6, C6⟩ := C5.go (d := d) hw hx
    obtain ⟨m1, m2, m3⟩ := LS2 (Y.1, Y.2.1, H) hp9 hf (kCpy ((Y.1 j).getD k dP).2 S).2
    obtain ⟨h7, e7, C7⟩ := C6.v2 hp9 hf (kCpy ((Y.1 j).getD k dP).2 S).2.length
    refine ⟨h7, H, ?_, ?_⟩
    · rw [e2', b_R, C2.a0, e5, b_V, C5.g9, C5.g10, C5.a0, e6, b_V, C6.hn m1]
      show ag_pF h6 _ 3 2 (.inl (nI (lms (lset (Y.1, Y.2.1, H) (2, p, f) (kCpy ((Y.1 j).getD k dP).2 S).2) (2, p, f)).length)) _ = _
      rw [m2]
      exact e7 _
    · have e9 := sU_lset (Y.1, Y.2.1, H) p f (kCpy ((Y.1 j).getD k dP).2 S).2 (kCpy ((Y.1 j).getD k dP).2 S).2.length
      rw [← e9]
      exact C7
theorem oOP_e {V : zV} {m e : Nat} (h9 : oOP V x m = .inl e) : e = 110 ∨ e = 112 := by
  unfold oOP at h9
  cases hs : V.2.2.1 x with
  | none => rw [hs] at h9; cases h9; exact Or.inl rfl
  | some i =>
    rw [hs] at h9
    dsimp only at h9
    cases h1 : (V.2.1 i).1
    · rw [h1] at h9; cases h9; exact Or.inl rfl
    · rw [h1] at h9
      dsimp only [cond_true] at h9
      cases h2 : ((V.2.1 i).2.1 && !Nat.beq m 0)
      · rw [h2] at h9; cases h9
      · rw [h2] at h9; cases h9; exact Or.inr rfl
theorem OW.opl {m : Nat} : ∀ (ms : List zM) (S : zS) (e : Nat) (G : List (Nat × Nat)), OW S (ms.map hp2 ++ G) → (0, 0) ∈ G → (∀ x ∈ ms, x.1 < 2) → OW (kOpL m ms S e).1 ((kOpL m ms S e).2.1.map hp2 ++ G) := by
  intro ms
  induction ms with
  | nil => intro S e G hO _ _; exact hO
  | cons y ms ih =>
    intro S e G hO h0 hv
    have v1 := hv y (by simp)
    have hv' : ∀ x ∈ ms, x.1 < 2 := fun x h => hv x (by simp [h])
    unfold kOpL
    cases ho : oOP (S.1 y.1) y.2.1 m with
    | inl e' =>
      have h1 : OW (kOP S y.1 y.2.1 m) ((y.1, y.2.1) :: (ms.map hp2 ++ G)) := OW.opn (S := S) hO v1 m
      exact ih _ e' G (h1.goh (by simp [h0]) v1).1 h0 hv'
    | inr i =>
      have h1 : OW (kOP S y.1 y.2.1 m) ((y.1, y.2.1) :: (ms.map hp2 ++ G)) := OW.opn (S := S) hO v1 m
      have h2 := ih (kOP S y.1 y.2.1 m) e ((y.1, y.2.1) :: G) (h1.cnt fun q => by simp only [List.count_append, List.count_cons]; omega) (by simp [h0]) hv'
      refine h2.cnt fun q => ?_
      show (List.map hp2 (y :: (kOpL m ms (kOP S y.1 y.2.1 m) e).2.1) ++ G).count q = _
      rw [List.map_cons, List.cons_append]
      show ((y.1, y.2.1) :: _).count q = _
      simp only [List.count_append, List.count_cons]
      omega
theorem kOpL_e {m : Nat} : ∀ (ms : List zM) (S : zS) (e : Nat), ((kOpL m ms S e).2.2 = e ∨ (kOpL m ms S e).2.2 = 110 ∨ (kOpL m ms S e).2.2 = 112) ∧ ((kOpL m ms S e).2.1 = [] → ms ≠ [] → (kOpL m ms S e).2.2 = 110 ∨ (kOpL m ms S e).2.2 = 112) ∧ (kOpL m ms S e).2.1.length ≤ ms.length ∧ ∀ x ∈ (kOpL m ms S e).2.1, x ∈ ms := by
  intro ms
  induction ms with
  | nil => intro S e; exact ⟨Or.inl rfl, fun _ h => absurd rfl h, Nat.le_refl _, fun x h => h⟩
  | cons y ms ih =>
    intro S e
    unfold kOpL
    cases ho : oOP (S.1 y.1) y.2.1 m with
    | inl e' =>
      obtain ⟨i1, i2, i3, i4⟩ := ih (kGo (kOP S y.1 y.2.1 m) y.1 y.2.1) e'
      have he := oOP_e ho
      refine ⟨Or.inr ?_, fun h1 _ => ?_, Nat.le_succ_of_le i3, fun x h => by simp [i4 x h]⟩
      · rcases i1 with h | h
        · show _ ∨ _
          rw [h]; exact he
        · exact h
      · rcases i1 with h | h
        · show _ ∨ _
          rw [h]; exact he
        · exact h
    | inr i =>
      obtain ⟨i1, i2, i3, i4⟩ := ih (kOP S y.1 y.2.1 m) e
      refine ⟨i1, fun h => (by cases h), Nat.succ_le_succ i3, fun x h => ?_⟩
      have h : x ∈ y :: (kOpL m ms (kOP S y.1 y.2.1 m) e).2.1 := h
      rw [List.mem_cons] at h ⊢
      rcases h with h | h
      · exact Or.inl h
      · exact Or.inr (i4 x h)
theorem c100_14 (hp9 : p < 4) (hf : f < 5) {m all : Nat} (hm : m < 3) (ha : all ≤ 3) : ∀ (rest acc : List zM) (n : Nat) (S : zS) (e : Nat) (G : List (Nat × Nat)) (h : ag_H), acc.length + rest.length ≤ 3 → rest.length ≤ all → e < 65536 → OW S (rest.map hp2 ++ G) → (0, 0) ∈ G → (∀ x ∈ rest, x.1 < 2) → CA z sl M pm S Q (lset Y (2, p, f) (acc ++ rest)) X W h →
    ∃ h', g100 (ag_run gT (d + 4)) (n + rest.length + 1) (some 0) (some (lad pm (2, p, f))) (nI m) (nI e) (nI all) (nI acc.length) (nI (all - rest.length)) h = some (.inl (some (.inl (nI (kOpL m rest S e).2.2))), h') ∧ CA z sl M pm (kOpL m rest S e).1 Q (lset Y (2, p, f) (acc ++ (kOpL m rest S e).2.1)) X W h' := by
  intro rest
  induction rest with
  | nil =>
    intro acc n S e G h hl hr he hO h0 hv hC
    refine ⟨h, ?_, hC⟩
    show f100_14 _ _ _ _ _ _ _ _ _ _ = _
    unfold f100_14
    rw [if_pos (nI_le (by simp) (by omega)), b_Cn he]
    rfl
  | cons y rest ih =>
    intro acc n S e G h hl hr he hO h0 hv hC
    have v1 := hv y (by simp)
    have hl : acc.length + (rest.length + 1) ≤ 3 := hl
    have hr : rest.length + 1 ≤ all := hr
    have hv' : ∀ x ∈ rest, x.1 < 2 := fun x h => hv x (by simp [h])
    obtain ⟨l1, l2, l3⟩ := LS2 Y hp9 hf (acc ++ y :: rest)
    have hyl : acc.length < (lms (lset Y (2, p, f) (acc ++ y :: rest)) (2, p, f)).length := by rw [l2]; simp
    have hy : (lms (lset Y (2, p, f) (acc ++ y :: rest)) (2, p, f)).getD acc.length dM = y := by
      rw [l2, List.getD_eq_getElem?_getD, List.getElem?_append_right (Nat.le_refl _), Nat.sub_self]; rfl
    have v3 : y.2.1 < 128 := hO.lt v1 (by simp [hp2])
    have e3 := hC.h3 (d := d + 3) l1 hyl
    have e4 := hC.h4 (d := d + 3) l1 hyl
    rw [hy] at e3 e4
    obtain ⟨h1, t, q, t', r, e1, C1⟩ := hC.to (d := d + 3) v1
    obtain ⟨h2, e2, C2⟩ := C1.c40 (d := d + 1) (s := y.1) rfl v3 hm
    have C2 : CA z sl M pm (kOP S y.1 y.2.1 m) Q (lset Y (2, p, f) (acc ++ y :: rest)) X W h2 := C2
    have e2 : ag_run gT (d + 4) 40 [.inr (some (2 + 9 * y.1)), .inl (nI y.2.1), .inl (nI m)] h1 = some (.inl (some (.inl (eI (oOP (S.1 y.1) y.2.1 m)))), h2) := e2
    have hO2 : OW (kOP S y.1 y.2.1 m) ((y.1, y.2.1) :: (rest.map hp2 ++ G)) := OW.opn (S := S) hO v1 m
    rw [show n + (y :: rest).length + 1 = (n + rest.length + 1) + 1 by simp; omega]
    show ∃ h', f100_14 _ _ _ _ _ _ _ _ _ _ = _ ∧ _
    unfold f100_14 f100_79
    rw [if_neg (nI_ge (by simp; omega) (by omega)), hC.ah l1, e3, b_I, hC.ah l1, e4, b_I, hC.a0, e1, b_R, C1.as v1, e2, b_I, lit_0, lit_1, nI_add, nI_add, show all - (y :: rest).length + 1 = all - rest.length by simp; omega]
    unfold kOpL
    cases ho : oOP (S.1 y.1) y.2.1 m with
    | inl e' =>
      have he' := oOP_e ho
      rw [if_neg (show ¬ eI (Sum.inl e' : Nat ⊕ Nat) = nI 0 by show ¬ nI e' = nI 0; rw [nI_eq (by omega) (by omega)]; omega)]
      obtain ⟨h4, e4, C4⟩ := C2.go (d := d) v1 v3
      obtain ⟨h5, e5, C5⟩ := C4.h2 (d := d + 3) l1 hyl
      rw [l2, l3] at C5
      have hE : (acc ++ y :: rest).eraseIdx acc.length = acc ++ rest := by
        rw [List.eraseIdx_append_of_length_le (Nat.le_refl _), Nat.sub_self]; rfl
      rw [hE] at C5
      obtain ⟨h6, e6, C6⟩ := ih acc n _ e' G h5 (by omega) (by omega) (by omega) (hO2.goh (by simp [h0]) v1).1 h0 hv' C5
      refine ⟨h6, ?_, C6⟩
      rw [C2.a0, e4, b_V, C4.ah l1, e5, b_V]
      exact e6
    | inr i =>
      rw [if_pos (show eI (Sum.inr i : Nat ⊕ Nat) = nI 0 from rfl)]
      have hC2 : CA z sl M pm (kOP S y.1 y.2.1 m) Q (lset Y (2, p, f) ((acc ++ [y]) ++ rest)) X W h2 := by
        rw [List.append_assoc]; exact C2
      obtain ⟨h6, e6, C6⟩ := ih (acc ++ [y]) n _ e ((y.1, y.2.1) :: G) h2 (by simp; omega) (by omega) he (hO2.cnt fun q => by simp only [List.count_append, List.count_cons]; omega) (by simp [h0]) hv' hC2
      refine ⟨h6, ?_, ?_⟩
      · rw [show (acc ++ [y]).length = acc.length + 1 by simp] at e6
        exact e6
      · rw [List.append_assoc] at C6
        exact C6
theorem CA.oph (hp9 : p < 4) (hf : f < 5) {m : Nat} (hm : m < 3) {ms : List zM} (hC : CA z sl M pm S Q (lset Y (2, p, f) ms) X W h) (hO : OW S (ms.map hp2 ++ G)) (h0 : (0, 0) ∈ G) (hv : ∀ x ∈ ms, x.1 < 2) : ∃ h', ag_run gT (d + 5) 100 [.inr (some 0), .inr (some (lad pm (2, p, f))), .inl (nI m)] h = some (.inl (some (.inl (nI (kOpL m ms S 0).2.2))), h') ∧ CA z sl M pm (kOpL m ms S 0).1 Q (lset Y (2, p, f) (kOpL m ms S 0).2.1) X W h' := by
  obtain ⟨l1, l2, l3⟩ := LS2 Y hp9 hf ms
  have hn := hC.len l1
  rw [l2] at hn
  obtain ⟨h', e, C⟩ := c100_14 (d := d) hp9 hf hm hn ms [] (3999 - ms.length) S 0 G h (by simp; omega) (Nat.le_refl _) (by decide) hO h0 hv hC
  refine ⟨h', ?_, C⟩
  rw [r100]
  unfold f100
  rw [hC.hn l1, l2, lit_0]
  rw [show 3999 - ms.length + ms.length + 1 = 4000 by omega, Nat.sub_self] at e
  exact e
theorem OW.cla : ∀ (ms : List zM) (S : zS), OW S (ms.map hp2 ++ G) → (∀ x ∈ ms, x.1 < 2) → OW (kClA S ms) G := by
  intro ms
  induction ms with
  | nil => intro S hO _; exact hO
  | cons y ms ih =>
    intro S hO hv
    have h1 : OW (kCl S y.1 y.2.1) (ms.map hp2 ++ G) := by
      have := OW.cl (S := S) (h := y.2.1) hO (hv y (by simp)) (by simp [hp2])
      rw [List.map_cons, List.cons_append] at this
      have e : ((hp2 y :: (ms.map hp2 ++ G)).erase (y.1, y.2.1)) = ms.map hp2 ++ G := List.erase_cons_head _ _
      rw [e] at this
      exact this
    exact ih _ h1 (fun x h => hv x (by simp [h]))
theorem CA.clf (hC : CA z sl M pm S Q Y X W h) (hp9 : p < 4) (hf : f < 5) (hv : ∀ m ∈ (Y.2.1 p f).2.1, m.1 < 2 ∧ m.2.1 < 128) : ∃ h', ag_run gT (d + 5) 102 [.inr (some 0), .inr (some (58 + 49 * p + 5 * f))] h = some (.inl none, h') ∧ CA z sl M pm (kClA S (Y.2.1 p f).2.1) Q (sU Y p f (false, (Y.2.1 p f).2)) X W h' := by
  have hL : LV Y (2, p, f) := Or.inr (Or.inr ⟨p, f, rfl, hp9, hf⟩)
  obtain ⟨h1, e1, C1⟩ := hC.cla (d := d) hL hv
  obtain ⟨h2, e2, C2⟩ := C1.v1 hp9 hf false
  refine ⟨h2, ?_, C2⟩
  rw [r102]
  unfold f102
  rw [hC.u0 hp9 hf, hC.a0, e1, b_V, lit_0, b_B (x := nI 0) (Or.inl rfl)]
  exact e2 _
end OPH

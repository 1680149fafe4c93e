/-! WHAT CHANGES of the class as a whole: a list of handles, a row of an open file, registers, texts -/
section CB1
variable {z sl d : Nat} {kd ln : Nat → Nat} {I I' : Nat → Nat → Int32} {R R' : Nat → Nat → Option Nat} {ad : Nat → Nat → Nat} {M : Nat → Nat → Int32} {pm : Nat → Nat → Nat} {S : zS} {Q : Nat → Option Nat} {Y : zY} {X : zX} {W : zW} {h : ag_H}
theorem gDs (l : List zP) {k : Nat} (v : zP) (hk : k < l.length) (i : Nat) : (l.set k v).getD i dP = if i = k then v else l.getD i dP := by
  rw [List.getD_eq_getElem?_getD, List.getElem?_set, List.getD_eq_getElem?_getD]
  by_cases e : i = k
  · subst e; rw [if_pos rfl, if_pos rfl, if_pos hk]; rfl
  · rw [if_neg (fun h => e h.symm), if_neg e]
theorem CB.kk (hC : CB z kd ln I R ad M pm S Q Y X W) {a c : Nat} (ha : a < 262) (h0 : kd0 a = c) : kd a = c := by rw [(hC.1.1 a ha).1]; exact h0
theorem CB.lms (hC : CB z kd ln I R ad M pm S Q Y X W) {L : Nat × Nat × Nat} (hL : LV Y L) : CH I (lad pm L) (lms Y L) ∧ kd (lad pm L) = 0 := by
  rcases hL with ⟨j, k, rfl⟩ | ⟨j, k, rfl, hj, hk⟩ | ⟨p, f, rfl, hp9, hf⟩
  · exact ⟨hC.2.2.2.2.2.2.2.2.2.1, hC.kk (a := 30) (by decide) (by decide)⟩
  · have h5 := hC.2.2.2.2.1 j hj
    have h1 := h5.2.2.2.2.2.2.2 k hk
    have h2 := (h5.2.2.2.1 k (by have := h5.2.2.1; omega)).1
    have h3 := (W_5 hC.1 (h5.2.2.2.2.2.1 _ h2)).1
    have e : 34 + 49 * j + 2 + 5 * pm j k + 1 = 37 + 49 * j + 5 * pm j k := by omega
    have h4 := h1.2.2
    rw [e] at h3 h4
    exact ⟨h4, h3⟩
  · have h7 := (hC.2.2.2.2.2.2.1 p f hp9 hf).2.1
    have h3 := (W_3 hC.1 (hC.kk (by omega) (kd0_u p hp9 f hf))).1
    have e : 58 + 49 * p + 5 * f + 1 = 59 + 49 * p + 5 * f := by omega
    rw [e] at h7 h3
    exact ⟨h7, h3⟩
theorem LV.len (hC : CB z kd ln I R ad M pm S Q Y X W) {j k : Nat} (hj : j < 4) (hk : k < (Y.1 j).length) : pm j k < 4 ∧ k < 4 := by
  have h5 := hC.2.2.2.2.1 j hj
  have := h5.2.2.1
  exact ⟨(h5.2.2.2.1 k (by omega)).1, by omega⟩
theorem CB.hand (hC : CB z kd ln I R ad M pm S Q Y X W) {L : Nat × Nat × Nat} (hL : LV Y L) {ms : List zM} (hm : CH I' (lad pm L) ms) (hF : Fh (lad pm L) I I') : CB z kd ln I' R ad M pm S Q (lset Y L ms) X W := by
  rcases hL with ⟨j, k, rfl⟩ | ⟨j, k, rfl, hj, hk⟩ | ⟨p, f, rfl, hp9, hf⟩
  · obtain ⟨w, hz, hz9, h2, h5, h6, h7, h8, h9, h10, h11⟩ := hC
    have hF : ∀ b i, (b < 30 ∨ 33 < b) → I' b i = I b i := hF
    exact ⟨w, hz, hz9, h2.congr (fun b i _ => hF b i (by omega)) (hF 0 8 (by omega)) (fun _ _ _ => rfl), h5.congr (fun j b i _ _ _ => hF b i (by omega)) (fun _ _ _ => rfl), h6.congr (fun p _ => hF _ _ (by omega)) (fun _ _ => rfl), h7.congr (fun p b i _ _ _ => hF b i (by omega)), h8.congr (fun b i _ _ => hF b i (by omega)), h9.congr (fun i => hF 0 i (by omega)), hm, fun b i h1 h2 => by rw [hF b i (by omega)]; exact h11 b i h1 h2⟩
  · have hl := LV.len hC hj hk
    have hl1 := hl.1
    obtain ⟨w, hz, hz9, h2, h5, h6, h7, h8, h9, h10, h11⟩ := hC
    have hF : ∀ b i, (b < 37 + 49 * j + 5 * pm j k ∨ 37 + 49 * j + 5 * pm j k + 3 < b) → I' b i = I b i := hF
    refine ⟨w, hz, hz9, h2.congr (fun b i _ => hF b i (by omega)) (hF 0 8 (by omega)) (fun _ _ _ => rfl), fun j' hj' => ?_, h6.congr (fun p _ => hF _ _ (by have := Nat.lt_trichotomy p j; omega)) (fun _ _ => rfl), h7.congr (fun p b i _ _ _ => hF b i (by have := Nat.lt_trichotomy p j; omega)), h8.congr (fun b i _ _ => hF b i (by omega)), h9.congr (fun i => hF 0 i (by omega)), h10.congr (fun b i _ _ => hF b i (by omega)), fun b i h1 h2 => by rw [hF b i (by omega)]; exact h11 b i h1 h2⟩
    show CN kd I' R (34 + 49 * j') (pm j') (up1 Y.1 j ((Y.1 j).set k (((Y.1 j).getD k dP).1, ms)) j')
    by_cases e : j' = j
    · subst e
      rw [up1_eq]
      obtain ⟨n1, n2, n3, n4, n5, n6, n7, n8⟩ := h5 j' hj'
      refine ⟨n1, by rw [List.length_set, hF _ _ (by omega)]; exact n2, by rw [List.length_set]; exact n3, n4, n5, n6, fun x hx => ?_, fun i hi => ?_⟩
      · rcases List.mem_or_eq_of_mem_set hx with h | h
        · exact n7 x h
        · rw [h]; exact (show ((Y.1 j').getD k dP).1.1 < 2 ∧ ((Y.1 j').getD k dP).1.2 < 300 from n7 _ (getD_memP hk))
      · rw [List.length_set] at hi
        rw [gDs _ _ hk]
        by_cases e2 : i = k
        · subst e2
          rw [if_pos rfl]
          have := n8 i hi
          refine ⟨by rw [hF _ _ (by omega)]; exact this.1, by rw [hF _ _ (by omega)]; exact this.2.1, ?_⟩
          rw [show 34 + 49 * j' + 2 + 5 * pm j' i + 1 = 37 + 49 * j' + 5 * pm j' i by omega]
          exact hm
        · rw [if_neg e2]
          have h4 : pm j' i ≠ pm j' k := fun h => e2 (n5 i k (by omega) hl.2 h)
          exact (n8 i hi).congr fun x i' _ _ => hF x i' (by have := Nat.lt_trichotomy (pm j' i) (pm j' k); omega)
    · rw [up1_ne e]
      exact (h5 j' hj').congr (fun x i _ _ => hF x i (by have := Nat.lt_trichotomy j' j; omega)) (fun _ => rfl)
  · obtain ⟨w, hz, hz9, h2, h5, h6, h7, h8, h9, h10, h11⟩ := hC
    have hF : ∀ b i, (b < 59 + 49 * p + 5 * f ∨ 59 + 49 * p + 5 * f + 3 < b) → I' b i = I b i := hF
    refine ⟨w, hz, hz9, h2.congr (fun b i _ => hF b i (by omega)) (hF 0 8 (by omega)) (fun _ _ _ => rfl), h5.congr (fun j b i _ _ _ => hF b i (by have := Nat.lt_trichotomy p j; omega)) (fun _ _ _ => rfl), h6.congr (fun p' _ => hF _ _ (by have := Nat.lt_trichotomy p p'; omega)) (fun _ _ => rfl), fun p' f' hp' hf' => ?_, h8.congr (fun b i _ _ => hF b i (by omega)), h9.congr (fun i => hF 0 i (by omega)), h10.congr (fun b i _ _ => hF b i (by omega)), fun b i h1 h2 => by rw [hF b i (by omega)]; exact h11 b i h1 h2⟩
    show CU I' (58 + 49 * p' + 5 * f') (up2 Y.2.1 p f ((Y.2.1 p f).1, ms, (Y.2.1 p f).2.2) p' f')
    by_cases e : p' = p ∧ f' = f
    · obtain ⟨rfl, rfl⟩ := e
      rw [up2_eq]
      obtain ⟨u1, u2, u3, u4, u5, u6⟩ := h7 p' f' hp' hf'
      refine ⟨by rw [hF _ _ (by omega)]; exact u1, ?_, by rw [hF _ _ (by omega)]; exact u3, by rw [hF _ _ (by omega)]; exact u4, by rw [hF _ _ (by omega)]; exact u5, by rw [hF _ _ (by omega)]; exact u6⟩
      rw [show 58 + 49 * p' + 5 * f' + 1 = 59 + 49 * p' + 5 * f' by omega]
      exact hm
    · rw [up2_ne e]
      exact (h7 p' f' hp' hf').congr fun x i _ _ => hF x i (by have := Nat.lt_trichotomy p p'; have := Nat.lt_trichotomy f f'; omega)
/-- the row of an open file itself -/
theorem CB.urow (hC : CB z kd ln I R ad M pm S Q Y X W) {p f : Nat} (hp9 : p < 4) (hf : f < 5) {u : zU} (hu : u.2.1 = (Y.2.1 p f).2.1) (hF : ∀ b i, b ≠ 58 + 49 * p + 5 * f → I' b i = I b i) (h1 : I' (58 + 49 * p + 5 * f) 1 = bI u.1) (h2 : I' (58 + 49 * p + 5 * f) 2 = nI u.2.2.1) (h3 : I' (58 + 49 * p + 5 * f) 3 = nI u.2.2.2.1) (h4 : I' (58 + 49 * p + 5 * f) 4 = nI u.2.2.2.2.1) (h5 : I' (58 + 49 * p + 5 * f) 5 = nI u.2.2.2.2.2) : CB z kd ln I' R ad M pm S Q (Y.1, up2 Y.2.1 p f u, Y.2.2) X W := by
  obtain ⟨w, hz, hz9, g2, g5, g6, g7, g8, g9, g10, g11⟩ := hC
  refine ⟨w, hz, hz9, g2.congr (fun b i _ => hF b i (by omega)) (hF 0 8 (by omega)) (fun _ _ _ => rfl), g5.congr (fun j b i _ _ _ => hF b i (by have := Nat.lt_trichotomy p j; omega)) (fun _ _ _ => rfl), g6.congr (fun p' _ => hF _ _ (by have := Nat.lt_trichotomy p p'; omega)) (fun _ _ => rfl), fun p' f' hp' hf' => ?_, g8.congr (fun b i _ _ => hF b i (by omega)), g9.congr (fun i => hF 0 i (by omega)), g10.congr (fun b i _ _ => hF b i (by omega)), fun b i h1 h2 => by rw [hF b i (by omega)]; exact g11 b i h1 h2⟩
  show CU I' (58 + 49 * p' + 5 * f') (up2 Y.2.1 p f u p' f')
  by_cases e : p' = p ∧ f' = f
  · obtain ⟨rfl, rfl⟩ := e
    rw [up2_eq]
    refine ⟨h1, ?_, h2, h3, h4, h5⟩
    rw [hu]
    exact (g7 p' f' hp' hf').2.1.congr fun x i _ _ => hF x i (by omega)
  · rw [up2_ne e]
    exact (g7 p' f' hp' hf').congr fun x i _ _ => hF x i (by have := Nat.lt_trichotomy p p'; have := Nat.lt_trichotomy f f'; omega)
/-- the registers -/
theorem CB.regs (hC : CB z kd ln I R ad M pm S Q Y X W) {W' : zW} (hF : ∀ b i, b ≠ 0 → I' b i = I b i) (h8 : I' 0 8 = I 0 8) (h9 : K9 I' W') : CB z kd ln I' R ad M pm S Q Y X W' := by
  obtain ⟨w, hz, hz9, g2, g5, g6, g7, g8, g9, g10, g11⟩ := hC
  exact ⟨w, hz, hz9, g2.congr (fun b i _ => hF b i (by omega)) h8 (fun _ _ _ => rfl), g5.congr (fun j b i _ _ _ => hF b i (by omega)) (fun _ _ _ => rfl), g6.congr (fun p _ => hF _ _ (by omega)) (fun _ _ => rfl), g7.congr (fun p b i _ _ _ => hF b i (by omega)), g8.congr (fun b i _ _ => hF b i (by omega)), h9, g10.congr (fun b i _ _ => hF b i (by omega)), fun b i h1 h2 => by rw [hF b i (by omega)]; exact g11 b i h1 h2⟩
/-- the latest server -/
theorem CB.late (hC : CB z kd ln I R ad M pm S Q Y X W) {s : Nat} (hs : s < 2) : ∃ t q t' r, CB z kd ln (up2 I 0 8 (nI s)) R ad M pm (S.1, s, t, q, t', r) Q Y X W := by
  obtain ⟨w, hz, hz9, ⟨a1, a2, a3, a4, -, -⟩, g5, g6, g7, g8, g9, g10, g11⟩ := hC
  obtain ⟨-, ⟨t, q, hq⟩, t', r, c, hr⟩ := a1 s hs
  have hF : ∀ b i, b ≠ 0 → up2 I 0 8 (nI s) b i = I b i := fun b i hb => up2_na hb
  have mm : ∀ {m : Nat} {t : Int32} {q : List Int32} {c : Int32}, m ≠ 0 → MM I m t q c → MM (up2 I 0 8 (nI s)) m t q c := fun hm ⟨m1, m2, m3, m4⟩ => ⟨by rw [hF _ _ hm]; exact m1, by rw [hF _ _ hm]; exact m2, fun i hi => by rw [hF _ _ (by omega)]; exact m3 i hi, m4⟩
  refine ⟨t, q, t', r, w, hz, hz9, ⟨fun s' hs' => (a1 s' hs').congr (fun b i _ _ => hF b i (by omega)) (fun i j hi => ?_) (fun _ => ⟨rfl, rfl⟩), a2, hs, up2_eq _ _ _ _, ⟨(S.1 s).2.2.2, ?_⟩, c, ?_⟩, g5.congr (fun j b i _ _ _ => hF b i (by omega)) (fun _ _ _ => rfl), g6.congr (fun p _ => hF _ _ (by omega)) (fun _ _ => rfl), g7.congr (fun p b i _ _ _ => hF b i (by omega)), g8.congr (fun b i _ _ => hF b i (by omega)), ?_, g10.congr (fun b i _ _ => hF b i (by omega)), fun b i h1 h2 => by rw [hF b i (by omega)]; exact g11 b i h1 h2⟩
  · have := (a2.1 s' i hs' hi).1
    exact ⟨hF _ _ (by omega), hF _ _ (by omega)⟩
  · show MM _ (3 + 9 * s) t q _
    rw [show 3 + 9 * s = 2 + 9 * s + 1 by omega]
    exact mm (by omega) hq
  · show MM _ (5 + 9 * s) t' r _
    rw [show 5 + 9 * s = 2 + 9 * s + 3 by omega]
    exact mm (by omega) hr
  · exact ⟨by rw [up2_ni (by omega)]; exact g9.1, by rw [up2_ni (by omega)]; exact g9.2.1, by rw [up2_ni (by omega)]; exact g9.2.2.1, by rw [up2_ni (by omega)]; exact g9.2.2.2⟩
/-- texts and paths -/
theorem CB.txt (hC : CB z kd ln I R ad M pm S Q Y X W) {X' : zX} (hF : ∀ b i, (b < 22 ∨ 29 < b) → I' b i = I b i) (h8 : K8 I' X') : CB z kd ln I' R ad M pm S Q Y X' W := by
  obtain ⟨w, hz, hz9, g2, g5, g6, g7, g8, g9, g10, g11⟩ := hC
  exact ⟨w, hz, hz9, g2.congr (fun b i _ => hF b i (by omega)) (hF _ _ (by omega)) (fun _ _ _ => rfl), g5.congr (fun j b i _ _ _ => hF b i (by omega)) (fun _ _ _ => rfl), g6.congr (fun p _ => hF _ _ (by omega)) (fun _ _ => rfl), g7.congr (fun p b i _ _ _ => hF b i (by omega)), h8, g9.congr (fun i => hF 0 i (by omega)), g10.congr (fun b i _ _ => hF b i (by omega)), fun b i h1 h2 => by rw [hF b i (by omega)]; exact g11 b i h1 h2⟩
/-- a name space -/
theorem CB.spc (hC : CB z kd ln I R ad M pm S Q Y X W) {j : Nat} (hj : j < 4) {pmj : Nat → Nat} {ps : List zP} (hw : WS kd ln R') (hN : CN kd I' R' (34 + 49 * j) pmj ps) (hF : ∀ b i, (b < 34 + 49 * j ∨ 55 + 49 * j < b) → I' b i = I b i) (h2 : I' (34 + 49 * j) 2 = I (34 + 49 * j) 2) (hR : ∀ b i, b ≠ 35 + 49 * j → R' b i = R b i) : CB z kd ln I' R' ad M (up1 pm j pmj) S Q (up1 Y.1 j ps, Y.2.1, Y.2.2) X W := by
  obtain ⟨w, hz, hz9, g2, g5, g6, g7, g8, g9, g10, g11⟩ := hC
  refine ⟨hw, hz, hz9, g2.congr (fun b i _ => hF b i (by omega)) (hF _ _ (by omega)) (fun b i _ => hR b i (by omega)), fun j' hj' => ?_, g6.congr (fun p hp => ?_) (fun p hp => hR _ _ (by have := Nat.lt_trichotomy p j; omega)), g7.congr (fun p b i _ _ _ => hF b i (by have := Nat.lt_trichotomy p j; omega)), g8.congr (fun b i _ _ => hF b i (by omega)), g9.congr (fun i => hF 0 i (by omega)), g10.congr (fun b i _ _ => hF b i (by omega)), fun b i h1 h2 => by rw [hF b i (by omega)]; exact g11 b i h1 h2⟩
  · show CN kd I' R' (34 + 49 * j') (up1 pm j pmj j') (up1 Y.1 j ps j')
    by_cases e : j' = j
    · subst e; rw [up1_eq, up1_eq]; exact hN
    · rw [up1_ne e, up1_ne e]
      exact (g5 j' hj').congr (fun x i _ _ => hF x i (by have := Nat.lt_trichotomy j' j; omega)) (fun i => hR _ _ (by have := Nat.lt_trichotomy j' j; omega))
  · by_cases e : p = j
    · subst e; exact h2
    · exact hF _ _ (by have := Nat.lt_trichotomy p j; omega)
/-- a throw -/
theorem CB.thr (hC : CB z kd ln I R ad M pm S Q Y X W) : CB (z + 1) kd ln I R ad M pm S Q Y X W := by
  obtain ⟨w, hz, hz9, ⟨a1, ⟨a2, a2'⟩, a3⟩, g5⟩ := hC
  exact ⟨w, by omega, fun b hb => hz9 b (by omega), ⟨a1, ⟨fun s i hs hi => ⟨(a2 s i hs hi).1, by have := (a2 s i hs hi).2; omega⟩, a2'⟩, a3⟩, g5⟩
theorem CA.thr (hC : CA z sl M pm S Q Y X W h) : CA (z + 1) (sl + 6) M pm S Q Y X W (ag_thr h) := by
  obtain ⟨kd, ln, I, R, ad, rfl, hB⟩ := hC
  exact ⟨kd, ln, I, R, ad, x_thr, hB.thr⟩
end CB1

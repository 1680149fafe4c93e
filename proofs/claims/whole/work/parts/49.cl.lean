/-! READING AND WRITING in the class as a whole -/
section CL1
variable {z sl d : Nat} {M : Nat → Nat → Int32} {pm : Nat → Nat → Nat} {S : zS} {Q : Nat → Option Nat} {Y : zY} {X : zX} {W : zW} {h : ag_H}
theorem CA.at (hC : CA z sl M pm S Q Y X W h) {a c : Nat} (ha : a < 262) (h0 : kd0 a = c) (hc : Nat.blt c 999 = true) {K : Nat → ag_R} : ag_at h (some a) c (fun x _ => K x) = K a := by
  obtain ⟨kd, ln, I, R, ad, rfl, hB⟩ := hC
  rw [x_atW (hB.kk ha h0) hc]
theorem CA.gR (hC : CA z sl M pm S Q Y X W h) {a c k b : Nat} (ha : a < 262) (h0 : kd0 a = c) (hf : fdR c k = true) (hs : sr c k = true) (hr : R0 a k = some b) {K : Option Nat → ag_R} : ag_gR h (some a) c k K = K (some b) := by
  obtain ⟨kd, ln, I, R, ad, rfl, hB⟩ := hC
  rw [x_gR hB.1 (hB.kk ha h0) hf, hB.1.2.1 a k ha (by rw [h0]; exact hs), hr]
theorem CA.xR (hC : CA z sl M pm S Q Y X W h) {a c k b : Nat} (ha : a < 262) (h0 : kd0 a = c) (hc : (Nat.ble 103 c && Nat.ble c 108) = true) (hs : sr c k = true) (hl : k < ln0 a) (hk : k < 2 ^ 31) (hr : R0 a k = some b) {K : Option Nat → ag_R} : ag_xR h (some a) c (nI k) K = K (some b) := by
  obtain ⟨kd, ln, I, R, ad, rfl, hB⟩ := hC
  rw [x_xR (hB.kk ha h0) hc (by rw [(hB.1.1 a ha).2]; exact hl) hk, hB.1.2.1 a k ha (by rw [h0]; exact hs), hr]
theorem CA.p0 (hC : CA z sl M pm S Q Y X W h) {K : Option Nat → ag_R} : ag_gR h (some 0) 10 0 K = K (some 1) := hC.gR (by decide) rfl rfl rfl rfl
theorem CA.p1 (hC : CA z sl M pm S Q Y X W h) {K : Option Nat → ag_R} : ag_gR h (some 0) 10 1 K = K (some 20) := hC.gR (by decide) rfl rfl rfl rfl
theorem CA.p2 (hC : CA z sl M pm S Q Y X W h) {K : Option Nat → ag_R} : ag_gR h (some 0) 10 2 K = K (some 21) := hC.gR (by decide) rfl rfl rfl rfl
theorem CA.p3 (hC : CA z sl M pm S Q Y X W h) {K : Option Nat → ag_R} : ag_gR h (some 0) 10 3 K = K (some 22) := hC.gR (by decide) rfl rfl rfl rfl
theorem CA.p4 (hC : CA z sl M pm S Q Y X W h) {K : Option Nat → ag_R} : ag_gR h (some 0) 10 4 K = K (some 24) := hC.gR (by decide) rfl rfl rfl rfl
theorem CA.p5 (hC : CA z sl M pm S Q Y X W h) {K : Option Nat → ag_R} : ag_gR h (some 0) 10 5 K = K (some 26) := hC.gR (by decide) rfl rfl rfl rfl
theorem CA.p6 (hC : CA z sl M pm S Q Y X W h) {K : Option Nat → ag_R} : ag_gR h (some 0) 10 6 K = K (some 28) := hC.gR (by decide) rfl rfl rfl rfl
theorem CA.p7 (hC : CA z sl M pm S Q Y X W h) {K : Option Nat → ag_R} : ag_gR h (some 0) 10 7 K = K (some 30) := hC.gR (by decide) rfl rfl rfl rfl
theorem CA.a0 (hC : CA z sl M pm S Q Y X W h) {K : Nat → ag_R} : ag_at h (some 0) 10 (fun x _ => K x) = K 0 := hC.at (by decide) rfl rfl
theorem CA.a4 (hC : CA z sl M pm S Q Y X W h) {K : Nat → ag_R} : ag_at h (some 26) 4 (fun x _ => K x) = K 26 := hC.at (by decide) rfl rfl
theorem CA.a5 (hC : CA z sl M pm S Q Y X W h) {K : Nat → ag_R} : ag_at h (some 28) 4 (fun x _ => K x) = K 28 := hC.at (by decide) rfl rfl
theorem CA.as (hC : CA z sl M pm S Q Y X W h) {s : Nat} (hs : s < 2) {K : Nat → ag_R} : ag_at h (some (2 + 9 * s)) 7 (fun x _ => K x) = K (2 + 9 * s) := hC.at (by omega) (kd0_s s hs).1 rfl
theorem CA.am (hC : CA z sl M pm S Q Y X W h) {s : Nat} (hs : s < 2) {K : Nat → ag_R} : ag_at h (some (5 + 9 * s)) 1 (fun x _ => K x) = K (5 + 9 * s) := hC.at (by omega) (kd0_s s hs).2.2 rfl
theorem CA.an (hC : CA z sl M pm S Q Y X W h) {j : Nat} (hj : j < 4) {K : Nat → ag_R} : ag_at h (some (34 + 49 * j)) 2 (fun x _ => K x) = K (34 + 49 * j) := hC.at (by omega) (kd0_n j hj).1 rfl
theorem CA.ap (hC : CA z sl M pm S Q Y X W h) {j : Nat} (hj : j < 4) {K : Nat → ag_R} : ag_at h (some (56 + 49 * j)) 6 (fun x _ => K x) = K (56 + 49 * j) := hC.at (by omega) (kd0_n j hj).2 rfl
theorem CA.au (hC : CA z sl M pm S Q Y X W h) {p f : Nat} (hp9 : p < 4) (hf : f < 5) {K : Nat → ag_R} : ag_at h (some (58 + 49 * p + 5 * f)) 3 (fun x _ => K x) = K (58 + 49 * p + 5 * f) := hC.at (by omega) (kd0_u p hp9 f hf) rfl
theorem CA.ah (hC : CA z sl M pm S Q Y X W h) {L : Nat × Nat × Nat} (hL : LV Y L) {K : Nat → ag_R} : ag_at h (some (lad pm L)) 0 (fun x _ => K x) = K (lad pm L) := by
  obtain ⟨kd, ln, I, R, ad, rfl, hB⟩ := hC
  rw [x_atW (hB.lms hL).2 rfl]
theorem CA.hn (hC : CA z sl M pm S Q Y X W h) {L : Nat × Nat × Nat} (hL : LV Y L) {K : Int32 → ag_R} : ag_gI h (some (lad pm L)) 0 3 K = K (nI (lms Y L).length) := by
  obtain ⟨kd, ln, I, R, ad, rfl, hB⟩ := hC
  obtain ⟨h1, h2⟩ := hB.lms hL
  rw [x_gI hB.1 h2 rfl, h1.1]
theorem CA.len (hC : CA z sl M pm S Q Y X W h) {L : Nat × Nat × Nat} (hL : LV Y L) : (lms Y L).length ≤ 3 := by
  obtain ⟨kd, ln, I, R, ad, rfl, hB⟩ := hC
  exact (hB.lms hL).1.2.1
theorem CA.h3 (hC : CA z sl M pm S Q Y X W h) {L : Nat × Nat × Nat} (hL : LV Y L) {i : Nat} (hi : i < (lms Y L).length) : ag_run gT (d + 1) 3 [.inr (some (lad pm L)), .inl (nI i)] h = some (.inl (some (.inl (nI ((lms Y L).getD i dM).1))), h) := by
  obtain ⟨kd, ln, I, R, ad, rfl, hB⟩ := hC
  exact s3 hB.1 (hB.lms hL).2 (hB.lms hL).1 hi
theorem CA.h4 (hC : CA z sl M pm S Q Y X W h) {L : Nat × Nat × Nat} (hL : LV Y L) {i : Nat} (hi : i < (lms Y L).length) : ag_run gT (d + 1) 4 [.inr (some (lad pm L)), .inl (nI i)] h = some (.inl (some (.inl (nI ((lms Y L).getD i dM).2.1))), h) := by
  obtain ⟨kd, ln, I, R, ad, rfl, hB⟩ := hC
  exact s4 hB.1 (hB.lms hL).2 (hB.lms hL).1 hi
theorem CA.h5 (hC : CA z sl M pm S Q Y X W h) {L : Nat × Nat × Nat} (hL : LV Y L) {i : Nat} (hi : i < (lms Y L).length) : ag_run gT (d + 1) 5 [.inr (some (lad pm L)), .inl (nI i)] h = some (.inl (some (.inl (bI ((lms Y L).getD i dM).2.2))), h) := by
  obtain ⟨kd, ln, I, R, ad, rfl, hB⟩ := hC
  exact s5 hB.1 (hB.lms hL).2 (hB.lms hL).1 hi
theorem CA.h6 (hC : CA z sl M pm S Q Y X W h) {L : Nat × Nat × Nat} (hL : LV Y L) : ag_run gT (d + 1) 6 [.inr (some (lad pm L))] h = some (.inl (some (.inl (pI ((List.range (lms Y L).length).find? fun i => ((lms Y L).getD i dM).2.2)))), h) := by
  obtain ⟨kd, ln, I, R, ad, rfl, hB⟩ := hC
  exact s6 hB.1 (hB.lms hL).2 (hB.lms hL).1
theorem CA.h1f (hC : CA z sl M pm S Q Y X W h) {L : Nat × Nat × Nat} (hL : LV Y L) (hl : (lms Y L).length < 3) (m : zM) : ∃ h', ag_run gT (d + 1) 1 [.inr (some (lad pm L)), .inl (nI 0), .inl (nI m.1), .inl (nI m.2.1), .inl (bI m.2.2)] h = some (.inl none, h') ∧ CA z sl M pm S Q (lset Y L (m :: lms Y L)) X W h' := by
  obtain ⟨kd, ln, I, R, ad, rfl, hB⟩ := hC
  obtain ⟨I', e, h1, h2⟩ := s1_f (z := z) (sl := sl) (d := d) hB.1 (hB.lms hL).2 (hB.lms hL).1 hl m
  exact ⟨_, e, kd, ln, I', R, ad, rfl, hB.hand hL h1 h2⟩
theorem CA.h1e (hC : CA z sl M pm S Q Y X W h) {L : Nat × Nat × Nat} (hL : LV Y L) (hl : (lms Y L).length < 3) (m : zM) : ∃ h', ag_run gT (d + 1) 1 [.inr (some (lad pm L)), .inl (nI (lms Y L).length), .inl (nI m.1), .inl (nI m.2.1), .inl (bI m.2.2)] h = some (.inl none, h') ∧ CA z sl M pm S Q (lset Y L (lms Y L ++ [m])) X W h' := by
  obtain ⟨kd, ln, I, R, ad, rfl, hB⟩ := hC
  obtain ⟨I', e, h1, h2⟩ := s1_e (z := z) (sl := sl) (d := d) hB.1 (hB.lms hL).2 (hB.lms hL).1 hl m
  exact ⟨_, e, kd, ln, I', R, ad, rfl, hB.hand hL h1 h2⟩
theorem CA.h2 (hC : CA z sl M pm S Q Y X W h) {L : Nat × Nat × Nat} (hL : LV Y L) {i : Nat} (hi : i < (lms Y L).length) : ∃ h', ag_run gT (d + 1) 2 [.inr (some (lad pm L)), .inl (nI i)] h = some (.inl none, h') ∧ CA z sl M pm S Q (lset Y L ((lms Y L).eraseIdx i)) X W h' := by
  obtain ⟨kd, ln, I, R, ad, rfl, hB⟩ := hC
  obtain ⟨I', e, h1, h2⟩ := s2 (z := z) (sl := sl) (d := d) hB.1 (hB.lms hL).2 (hB.lms hL).1 hi
  exact ⟨_, e, kd, ln, I', R, ad, rfl, hB.hand hL h1 h2⟩
theorem CA.hz (hC : CA z sl M pm S Q Y X W h) {L : Nat × Nat × Nat} (hL : LV Y L) : ∃ h', (∀ K, ag_pF h (some (lad pm L)) 0 3 (.inl (nI 0)) K = K h') ∧ CA z sl M pm S Q (lset Y L []) X W h' := by
  obtain ⟨kd, ln, I, R, ad, rfl, hB⟩ := hC
  obtain ⟨h1, h2⟩ := hB.lms hL
  refine ⟨_, fun K => x_pI hB.1 h2 rfl, kd, ln, _, R, ad, rfl, hB.hand hL ⟨up2_eq _ _ _ _, by simp, fun i hi => by simp at hi⟩ fun b j hb => up2_na (by omega)⟩
/-- registers -/
theorem CA.g9 (hC : CA z sl M pm S Q Y X W h) {K : Int32 → ag_R} : ag_gI h (some 0) 10 9 K = K (nI W.1) := by
  obtain ⟨kd, ln, I, R, ad, rfl, hB⟩ := hC
  rw [x_gI hB.1 (hB.kk (a := 0) (c := 10) (by decide) rfl) rfl, hB.2.2.2.2.2.2.2.2.1.1]
theorem CA.g10 (hC : CA z sl M pm S Q Y X W h) {K : Int32 → ag_R} : ag_gI h (some 0) 10 10 K = K (nI W.2.1) := by
  obtain ⟨kd, ln, I, R, ad, rfl, hB⟩ := hC
  rw [x_gI hB.1 (hB.kk (a := 0) (c := 10) (by decide) rfl) rfl, hB.2.2.2.2.2.2.2.2.1.2.1]
theorem CA.g11 (hC : CA z sl M pm S Q Y X W h) {K : Int32 → ag_R} : ag_gI h (some 0) 10 11 K = K (nI W.2.2.1) := by
  obtain ⟨kd, ln, I, R, ad, rfl, hB⟩ := hC
  rw [x_gI hB.1 (hB.kk (a := 0) (c := 10) (by decide) rfl) rfl, hB.2.2.2.2.2.2.2.2.1.2.2.1]
theorem CA.g12 (hC : CA z sl M pm S Q Y X W h) {K : Int32 → ag_R} : ag_gI h (some 0) 10 12 K = K (bI W.2.2.2) := by
  obtain ⟨kd, ln, I, R, ad, rfl, hB⟩ := hC
  rw [x_gI hB.1 (hB.kk (a := 0) (c := 10) (by decide) rfl) rfl, hB.2.2.2.2.2.2.2.2.1.2.2.2]
theorem CA.g8 (hC : CA z sl M pm S Q Y X W h) {K : Int32 → ag_R} : ag_gI h (some 0) 10 8 K = K (nI S.2.1) := by
  obtain ⟨kd, ln, I, R, ad, rfl, hB⟩ := hC
  rw [x_gI hB.1 (hB.kk (a := 0) (c := 10) (by decide) rfl) rfl, hB.2.2.2.1.2.2.2.1]
theorem CA.w9 (hC : CA z sl M pm S Q Y X W h) (x : Nat) : ∃ h', (∀ K, ag_pF h (some 0) 10 9 (.inl (nI x)) K = K h') ∧ CA z sl M pm S Q Y X (x, W.2) h' := by
  obtain ⟨kd, ln, I, R, ad, rfl, hB⟩ := hC
  have h9 := hB.2.2.2.2.2.2.2.2.1
  exact ⟨_, fun K => x_pI hB.1 (hB.kk (by decide) rfl) rfl, kd, ln, _, R, ad, rfl, hB.regs (fun b i hb => up2_na hb) (up2_ni (by decide)) ⟨up2_eq _ _ _ _, by rw [up2_ni (by decide)]; exact h9.2.1, by rw [up2_ni (by decide)]; exact h9.2.2.1, by rw [up2_ni (by decide)]; exact h9.2.2.2⟩⟩
theorem CA.w10 (hC : CA z sl M pm S Q Y X W h) (x : Nat) : ∃ h', (∀ K, ag_pF h (some 0) 10 10 (.inl (nI x)) K = K h') ∧ CA z sl M pm S Q Y X (W.1, x, W.2.2) h' := by
  obtain ⟨kd, ln, I, R, ad, rfl, hB⟩ := hC
  have h9 := hB.2.2.2.2.2.2.2.2.1
  exact ⟨_, fun K => x_pI hB.1 (hB.kk (by decide) rfl) rfl, kd, ln, _, R, ad, rfl, hB.regs (fun b i hb => up2_na hb) (up2_ni (by decide)) ⟨by rw [up2_ni (by decide)]; exact h9.1, up2_eq _ _ _ _, by rw [up2_ni (by decide)]; exact h9.2.2.1, by rw [up2_ni (by decide)]; exact h9.2.2.2⟩⟩
theorem CA.w11 (hC : CA z sl M pm S Q Y X W h) (x : Nat) : ∃ h', (∀ K, ag_pF h (some 0) 10 11 (.inl (nI x)) K = K h') ∧ CA z sl M pm S Q Y X (W.1, W.2.1, x, W.2.2.2) h' := by
  obtain ⟨kd, ln, I, R, ad, rfl, hB⟩ := hC
  have h9 := hB.2.2.2.2.2.2.2.2.1
  exact ⟨_, fun K => x_pI hB.1 (hB.kk (by decide) rfl) rfl, kd, ln, _, R, ad, rfl, hB.regs (fun b i hb => up2_na hb) (up2_ni (by decide)) ⟨by rw [up2_ni (by decide)]; exact h9.1, by rw [up2_ni (by decide)]; exact h9.2.1, up2_eq _ _ _ _, by rw [up2_ni (by decide)]; exact h9.2.2.2⟩⟩
theorem CA.w12 (hC : CA z sl M pm S Q Y X W h) (x : Bool) : ∃ h', (∀ K, ag_pF h (some 0) 10 12 (.inl (bI x)) K = K h') ∧ CA z sl M pm S Q Y X (W.1, W.2.1, W.2.2.1, x) h' := by
  obtain ⟨kd, ln, I, R, ad, rfl, hB⟩ := hC
  have h9 := hB.2.2.2.2.2.2.2.2.1
  exact ⟨_, fun K => x_pI hB.1 (hB.kk (by decide) rfl) rfl, kd, ln, _, R, ad, rfl, hB.regs (fun b i hb => up2_na hb) (up2_ni (by decide)) ⟨by rw [up2_ni (by decide)]; exact h9.1, by rw [up2_ni (by decide)]; exact h9.2.1, by rw [up2_ni (by decide)]; exact h9.2.2.1, up2_eq _ _ _ _⟩⟩
/-- the messages of a server -/
theorem R0_s : ∀ s, s < 2 → R0 (2 + 9 * s) 0 = some (3 + 9 * s) ∧ R0 (2 + 9 * s) 1 = some (5 + 9 * s) ∧ R0 1 s = some (2 + 9 * s) := by decide
theorem CA.q0 (hC : CA z sl M pm S Q Y X W h) {s : Nat} (hs : s < 2) {K : Option Nat → ag_R} : ag_gR h (some (2 + 9 * s)) 7 0 K = K (some (3 + 9 * s)) := hC.gR (by omega) (kd0_s s hs).1 rfl rfl (R0_s s hs).1
theorem CA.q1 (hC : CA z sl M pm S Q Y X W h) {s : Nat} (hs : s < 2) {K : Option Nat → ag_R} : ag_gR h (some (2 + 9 * s)) 7 1 K = K (some (5 + 9 * s)) := hC.gR (by omega) (kd0_s s hs).1 rfl rfl (R0_s s hs).2.1
theorem CA.qs (hC : CA z sl M pm S Q Y X W h) {s : Nat} (hs : s < 2) {K : Option Nat → ag_R} : ag_xR h (some 1) 103 (nI s) K = K (some (2 + 9 * s)) := hC.xR (by decide) rfl rfl rfl (show s < 2 from hs) (by omega) (R0_s s hs).2.2
theorem CA.m12 (hC : CA z sl M pm S Q Y X W h) {j : Nat} (hj : j + 4 ≤ S.2.2.2.2.2.length) (v : Int32) (hv : ∀ i, i < 4 → S.2.2.2.2.2.getD (j + i) 0 = by8 v (8 * i)) : ag_run gT (d + 2) 12 [.inr (some (5 + 9 * S.2.1)), .inl (nI (7 + j))] h = some (.inl (some (.inl (un4 v))), h) := by
  obtain ⟨kd, ln, I, R, ad, rfl, hB⟩ := hC
  obtain ⟨c, hm⟩ := hB.2.2.2.1.2.2.2.2.2
  have := hB.2.2.2.1.2.2.1
  exact s12 hB.1 (hB.kk (by omega) (kd0_s _ this).2.2) hm hj v hv
theorem CA.m10 (hC : CA z sl M pm S Q Y X W h) {j : Nat} (hj : j < S.2.2.2.2.2.length) : ag_run gT (d + 1) 10 [.inr (some (5 + 9 * S.2.1)), .inl (nI (7 + j))] h = some (.inl (some (.inl (S.2.2.2.2.2.getD j 0))), h) := by
  obtain ⟨kd, ln, I, R, ad, rfl, hB⟩ := hC
  obtain ⟨c, hm⟩ := hB.2.2.2.1.2.2.2.2.2
  have := hB.2.2.2.1.2.2.1
  exact s10_in hB.1 (hB.kk (by omega) (kd0_s _ this).2.2) hm hj
theorem CA.l2 (hC : CA z sl M pm S Q Y X W h) : S.2.1 < 2 := by
  obtain ⟨kd, ln, I, R, ad, rfl, hB⟩ := hC
  exact hB.2.2.2.1.2.2.1
theorem CA.vw (hC : CA z sl M pm S Q Y X W h) {s : Nat} (hs : s < 2) : VW (S.1 s) := by
  obtain ⟨kd, ln, I, R, ad, rfl, hB⟩ := hC
  exact (hB.2.2.2.1.1 s hs).1.2.1
/-- name spaces -/
theorem CA.n14 (hC : CA z sl M pm S Q Y X W h) {j s i : Nat} (hj : j < 4) (hs : s < 2) (hi : i < 300) : ag_run gT (d + 1) 14 [.inr (some (34 + 49 * j)), .inl (nI s), .inl (nI i)] h = some (.inl (some (.inl (pI (pidx (Y.1 j) s i)))), h) := by
  obtain ⟨kd, ln, I, R, ad, rfl, hB⟩ := hC
  exact s14 hB.1 (hB.2.2.2.2.1 j hj) hs hi
theorem CA.n15 (hC : CA z sl M pm S Q Y X W h) {j : Nat} (hj : j < 4) {o : Option Nat} (ho : ∀ k, o = some k → k < (Y.1 j).length) : ag_run gT (d + 1) 15 [.inr (some (34 + 49 * j)), .inl (pI o)] h = some (.inl (some (.inr (o.map fun k => 36 + 49 * j + 5 * pm j k))), h) := by
  obtain ⟨kd, ln, I, R, ad, rfl, hB⟩ := hC
  have := s15 (z := z) (sl := sl) (d := d) hB.1 (hB.2.2.2.2.1 j hj) ho
  rw [this]
  cases o with
  | none => rfl
  | some k =>
    show some (Sum.inl (some (Sum.inr (some (34 + 49 * j + 2 + 5 * pm j k)))), _) = some (Sum.inl (some (Sum.inr (some (36 + 49 * j + 5 * pm j k)))), _)
    rw [show 34 + 49 * j + 2 + 5 * pm j k = 36 + 49 * j + 5 * pm j k by omega]
theorem CA.np (hC : CA z sl M pm S Q Y X W h) {j k : Nat} (hj : j < 4) (hk : k < (Y.1 j).length) {K : Option Nat → ag_R} : ag_gR h (some (36 + 49 * j + 5 * pm j k)) 5 0 K = K (some (lad pm (1, j, k))) := by
  obtain ⟨kd, ln, I, R, ad, rfl, hB⟩ := hC
  have h5 := hB.2.2.2.2.1 j hj
  have h3 := h5.2.2.1
  have h4 := h5.2.2.2.2.2.1 _ (h5.2.2.2.1 k (by omega)).1
  rw [show 34 + 49 * j + 2 + 5 * pm j k = 36 + 49 * j + 5 * pm j k by omega] at h4
  rw [x_gR hB.1 h4 rfl, (W_5 hB.1 h4).2]
  show K (some (36 + 49 * j + 5 * pm j k + 1)) = K (some (37 + 49 * j + 5 * pm j k))
  rw [show 36 + 49 * j + 5 * pm j k + 1 = 37 + 49 * j + 5 * pm j k by omega]
theorem CA.nc (hC : CA z sl M pm S Q Y X W h) {j : Nat} (hj : j < 4) {K : Int32 → ag_R} : ag_gI h (some (34 + 49 * j)) 2 1 K = K (nI (Y.1 j).length) := by
  obtain ⟨kd, ln, I, R, ad, rfl, hB⟩ := hC
  have h5 := hB.2.2.2.2.1 j hj
  rw [x_gI hB.1 h5.1 rfl, h5.2.1]
theorem CA.nl (hC : CA z sl M pm S Q Y X W h) {j : Nat} (hj : j < 4) : (Y.1 j).length ≤ 4 ∧ ∀ p ∈ Y.1 j, p.1.1 < 2 ∧ p.1.2 < 300 := by
  obtain ⟨kd, ln, I, R, ad, rfl, hB⟩ := hC
  have h5 := hB.2.2.2.2.1 j hj
  exact ⟨h5.2.2.1, h5.2.2.2.2.2.2.1⟩
theorem CA.n16 (hC : CA z sl M pm S Q Y X W h) {j s i : Nat} (hj : j < 4) (hl : (Y.1 j).length < 4) (hs : s < 2) (hi : i < 300) : ∃ h', ag_run gT (d + 2) 16 [.inr (some (34 + 49 * j)), .inl (nI s), .inl (nI i)] h = some (.inl (some (.inr (some (lad pm (1, j, (Y.1 j).length))))), h') ∧ CA z sl M pm S Q (up1 Y.1 j (Y.1 j ++ [((s, i), [])]), Y.2.1, Y.2.2) X W h' := by
  obtain ⟨kd, ln, I, R, ad, rfl, hB⟩ := hC
  obtain ⟨I', e, h1, h2, h3⟩ := s16 (z := z) (sl := sl) (d := d) hB.1 (hB.2.2.2.2.1 j hj) hl hs hi
  refine ⟨_, ?_, kd, ln, I', R, ad, rfl, ?_⟩
  · rw [e]
    show some (Sum.inl (some (Sum.inr (some (34 + 49 * j + 2 + 5 * pm j (Y.1 j).length + 1)))), _) = some (Sum.inl (some (Sum.inr (some (37 + 49 * j + 5 * pm j (Y.1 j).length)))), _)
    rw [show 34 + 49 * j + 2 + 5 * pm j (Y.1 j).length + 1 = 37 + 49 * j + 5 * pm j (Y.1 j).length by omega]
  · have := hB.spc (R' := R) hj hB.1 h1 (fun b i hb => h2 b i (by omega)) h3 (fun _ _ _ => rfl)
    have e2 : up1 pm j (pm j) = pm := by
      funext x
      by_cases e : x = j
      · subst e; rw [up1_eq]
      · rw [up1_ne e]
    rw [e2] at this
    exact this
theorem CA.n17 (hC : CA z sl M pm S Q Y X W h) {j k : Nat} (hj : j < 4) (hk : k < (Y.1 j).length) : ∃ h' pm', ag_run gT (d + 1) 17 [.inr (some (34 + 49 * j)), .inl (nI k)] h = some (.inl none, h') ∧ CA z sl M pm' S Q (up1 Y.1 j ((Y.1 j).eraseIdx k), Y.2.1, Y.2.2) X W h' := by
  obtain ⟨kd, ln, I, R, ad, rfl, hB⟩ := hC
  obtain ⟨R', e, h1, h2, h3⟩ := s17 (z := z) (sl := sl) (d := d) hB.1 (hB.2.2.2.2.1 j hj) hk
  refine ⟨_, _, e, kd, ln, _, R', ad, rfl, hB.spc hj h1 h2 (fun b i hb => up2_na (by omega)) (up2_ni (by decide)) (fun b i hb => h3 b i (by omega))⟩
theorem CA.n18 (hC : CA z sl M pm S Q Y X W h) {j : Nat} (hj : j < 4) : ag_run gT (d + 1) 18 [.inr (some (34 + 49 * j))] h = some (.inl (some (.inl (nI (pmem (Y.1 j))))), h) := by
  obtain ⟨kd, ln, I, R, ad, rfl, hB⟩ := hC
  exact s18 hB.1 (hB.2.2.2.2.1 j hj)
theorem CA.nz (hC : CA z sl M pm S Q Y X W h) {j : Nat} (hj : j < 4) : ∃ h', (∀ K, ag_pF h (some (34 + 49 * j)) 2 1 (.inl (nI 0)) K = K h') ∧ CA z sl M pm S Q (up1 Y.1 j [], Y.2.1, Y.2.2) X W h' := by
  obtain ⟨kd, ln, I, R, ad, rfl, hB⟩ := hC
  obtain ⟨n1, n2, n3, n4, n5, n6, n7, n8⟩ := hB.2.2.2.2.1 j hj
  refine ⟨_, fun K => x_pI hB.1 n1 rfl, kd, ln, _, R, ad, rfl, ?_⟩
  have := hB.spc (R' := R) (I' := up2 I (34 + 49 * j) 1 (nI 0)) (ps := []) hj hB.1 ⟨n1, up2_eq _ _ _ _, by simp, n4, n5, n6, fun p hp9 => by simp at hp9, fun i hi => by simp at hi⟩ (fun b i hb => up2_na (by omega)) (up2_ni (by decide)) (fun _ _ _ => rfl)
  have e2 : up1 pm j (pm j) = pm := by
    funext x
    by_cases e : x = j
    · subst e; rw [up1_eq]
    · rw [up1_ne e]
  rw [e2] at this
  exact this
end CL1

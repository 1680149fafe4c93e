/-! THE REFERENCE: its rows M in the class as a whole -/
abbrev zA : Type := Nat × Nat × (Nat → Nat → Nat) × zS × (Nat → Option Nat) × zY × zX × zW
def TA (A : zA) (M : Nat → Nat → Int32) (h : ag_H) : Prop := CA A.1 A.2.1 M A.2.2.1 A.2.2.2.1 A.2.2.2.2.1 A.2.2.2.2.2.1 A.2.2.2.2.2.2.1 A.2.2.2.2.2.2.2 h ∧ ∀ y, M 252 y = 0 ∨ M 252 y = 1
/-- an int is written -/
def hse (h : ag_H) (a k : Nat) (v : Int32) : ag_H := match h.2.2 a with
  | some (c, xs) => ag_set h a (c, xs.set k (.inl v))
  | none => h
set_option maxRecDepth 100000 in
theorem ln0_le : ∀ a, a < 262 → ln0 a ≤ 5000 := by decide +kernel
section RA
variable {A : zA} {M M' : Nat → Nat → Int32} {h : ag_H} {d : Nat}
theorem TA.ra (hT : TA A M h) {K : Nat → ag_R} : ag_at h (some 230) 11 (fun x _ => K x) = K 230 := CA.at hT.1 (by decide) rfl rfl
theorem TA.rI (hT : TA A M h) {k : Nat} (hf : fdI 11 k = true) {K : Int32 → ag_R} : ag_gI h (some 230) 11 k K = K (M 230 k) := by
  obtain ⟨⟨kd, ln, I, R, ad, rfl, hB⟩, hb9⟩ := hT
  rw [x_gI hB.1 (hB.kk (a := 230) (c := 11) (by decide) rfl) hf, hB.2.2.2.2.2.2.2.2.2.2 230 k (by decide) (by decide)]
theorem TA.rR (hT : TA A M h) {k b : Nat} (hf : fdR 11 k = true) (hr : R0 230 k = some b) {K : Option Nat → ag_R} : ag_gR h (some 230) 11 k K = K (some b) := CA.gR (a := 230) (c := 11) hT.1 (by decide) rfl hf (show rf 11 k = true from (fdR_ok hf).2.2) hr
def okx (a c i : Nat) : Bool := Nat.blt 230 a && Nat.blt a 262 && Nat.beq (kd0 a) c && (Nat.beq c 100 || Nat.beq c 101 || Nat.beq c 102)
theorem TA.rx (hT : TA A M h) {a c i : Nat} (ho : okx a c i = true) (hi : i < ln0 a) {K : Int32 → ag_R} : ag_xI h (some a) c (nI i) K = K (M a i) := by
  unfold okx at ho
  simp only [Bool.and_eq_true] at ho
  obtain ⟨⟨⟨h1, h2⟩, h3⟩, h4⟩ := ho
  have h1 := g_lt h1
  have h2 := g_lt h2
  have hl := ln0_le a h2
  obtain ⟨⟨kd, ln, I, R, ad, rfl, hB⟩, hb9⟩ := hT
  rw [x_xI (hB.kk h2 (Nat.eq_of_beq_eq_true h3)) h4 (by rw [(hB.1.1 a h2).2]; exact hi) (by omega), hB.2.2.2.2.2.2.2.2.2.2 a i (by omega) h2]
theorem CB.mrow {z : Nat} {kd ln : Nat → Nat} {I : Nat → Nat → Int32} {R : Nat → Nat → Option Nat} {ad : Nat → Nat → Nat} {pm : Nat → Nat → Nat} {S : zS} {Q : Nat → Option Nat} {Y : zY} {X : zX} {W : zW} (hC : CB z kd ln I R ad M pm S Q Y X W) {a i : Nat} {v : Int32} (ha : 230 ≤ a) (ha2 : a < 262) : CB z kd ln (up2 I a i v) R ad (up2 M a i v) pm S Q Y X W := by
  obtain ⟨w, hz, hz9, g2, g5, g6, g7, g8, g9, g10, g11⟩ := hC
  have hF : ∀ b j, b < 230 ∨ 262 ≤ b → up2 I a i v b j = I b j := fun b j hb => up2_na (by omega)
  exact ⟨w, hz, hz9, g2.congr (fun b i _ => hF b i (by omega)) (hF _ _ (by omega)) (fun _ _ _ => rfl), g5.congr (fun j b i _ _ _ => hF b i (by omega)) (fun _ _ _ => rfl), g6.congr (fun p _ => hF _ _ (by omega)) (fun _ _ => rfl), g7.congr (fun p b i _ _ _ => hF b i (by omega)), g8.congr (fun b i _ _ => hF b i (by omega)), g9.congr (fun i => hF 0 i (by omega)), g10.congr (fun b i _ _ => hF b i (by omega)), fun b j h1 h2 => by
    by_cases e : b = a ∧ j = i
    · obtain ⟨rfl, rfl⟩ := e; rw [up2_eq, up2_eq]
    · rw [up2_ne e, up2_ne e]; exact g11 b j h1 h2⟩
theorem hs_hp {z sl : Nat} {kd ln : Nat → Nat} {I : Nat → Nat → Int32} {R : Nat → Nat → Option Nat} {a c k : Nat} {v : Int32} (hk : kd a = c) (hc : c < 999) (hr : rf c k = false) : hse (hp z sl kd ln I R) a k v = hp z sl kd ln (up2 I a k v) R := by
  unfold hse
  rw [hp_at hk hc]
  exact hp_setI hk hc hr
theorem TA.sI (hT : TA A M h) {k : Nat} (hf : fdI 11 k = true) (v : Int32) : TA A (up2 M 230 k v) (hse h 230 k v) := by
  obtain ⟨⟨kd, ln, I, R, ad, rfl, hB⟩, hb9⟩ := hT
  have hk := hB.kk (a := 230) (c := 11) (by decide) rfl
  rw [hs_hp hk (by decide) (fdI_ok hf).2.2]
  exact ⟨⟨kd, ln, _, R, ad, rfl, hB.mrow (by decide) (by decide)⟩, fun y => by rw [up2_na (by decide)]; exact hb9 y⟩
theorem TA.wI (hT : TA A M h) {k : Nat} (hf : fdI 11 k = true) {v : Int32} {K : ag_H → ag_R} : ag_pF h (some 230) 11 k (.inl v) K = K (hse h 230 k v) := by
  obtain ⟨⟨kd, ln, I, R, ad, rfl, hB⟩, hb9⟩ := hT
  have hk := hB.kk (a := 230) (c := 11) (by decide) rfl
  rw [hs_hp hk (by decide) (fdI_ok hf).2.2, x_pI hB.1 hk hf]
theorem okx_k {a c i : Nat} (ho : okx a c i = true) : 230 < a ∧ a < 262 ∧ kd0 a = c ∧ (c = 100 ∨ c = 101 ∨ c = 102) := by
  unfold okx at ho
  simp only [Bool.and_eq_true, Bool.or_eq_true] at ho
  obtain ⟨⟨⟨h1, h2⟩, h3⟩, h4⟩ := ho
  refine ⟨g_lt h1, g_lt h2, Nat.eq_of_beq_eq_true h3, ?_⟩
  rcases h4 with (h | h) | h <;> have := Nat.eq_of_beq_eq_true h <;> omega
theorem TA.sx (hT : TA A M h) {a c i : Nat} (ho : okx a c i = true) (v : Int32) (hv : a = 252 → v = 0 ∨ v = 1 := by exact fun h => absurd h (by decide)) : TA A (up2 M a i v) (hse h a i v) := by
  obtain ⟨h1, h2, h3, h4⟩ := okx_k ho
  obtain ⟨⟨kd, ln, I, R, ad, rfl, hB⟩, hb9⟩ := hT
  have hk := hB.kk h2 h3
  rw [hs_hp hk (by omega) (by rcases h4 with rfl | rfl | rfl <;> rfl)]
  refine ⟨⟨kd, ln, _, R, ad, rfl, hB.mrow (by omega) h2⟩, fun y => ?_⟩
  by_cases e : 252 = a ∧ y = i
  · rw [e.1, e.2, up2_eq]; exact hv e.1.symm
  · rw [up2_ne e]; exact hb9 y
theorem TA.wx (hT : TA A M h) {a c i : Nat} (ho : okx a c i = true) (hi : i < ln0 a) {v : Int32} {K : ag_H → ag_R} : ag_xP h (some a) c (nI i) (.inl v) K = K (hse h a i v) := by
  obtain ⟨h1, h2, h3, h4⟩ := okx_k ho
  have hl := ln0_le a h2
  obtain ⟨⟨kd, ln, I, R, ad, rfl, hB⟩, hb9⟩ := hT
  have hk := hB.kk h2 h3
  rw [hs_hp hk (by omega) (by rcases h4 with rfl | rfl | rfl <;> rfl), x_yI hk (by rcases h4 with rfl | rfl | rfl <;> rfl) (by rw [(hB.1.1 a h2).2]; exact hi) (by omega)]
/-- a message under construction: what stands from byte 4 on -/
def BS (M : Nat → Nat → Int32) (r k N : Nat) (pl : List Int32) : Prop := M 230 k = nI (4 + pl.length) ∧ pl.length ≤ N ∧ ∀ i, i < pl.length → M r (4 + i) = pl.getD i 0
abbrev AS (M : Nat → Nat → Int32) (pl : List Int32) : Prop := BS M 244 17 30 pl
abbrev RS (M : Nat → Nat → Int32) (pl : List Int32) : Prop := BS M 245 19 18 pl
def FA (M M' : Nat → Nat → Int32) : Prop := ∀ b j, b ≠ 244 → ¬ (b = 230 ∧ j = 17) → M' b j = M b j
def FB (M M' : Nat → Nat → Int32) : Prop := ∀ b j, b ≠ 245 → ¬ (b = 230 ∧ j = 19) → M' b j = M b j
theorem BS.congr {r k N : Nat} {pl : List Int32} (hB : BS M r k N pl) (h1 : M' 230 k = M 230 k) (h2 : ∀ j, M' r j = M r j) : BS M' r k N pl :=
  ⟨by rw [h1]; exact hB.1, hB.2.1, fun i hi => by rw [h2]; exact hB.2.2 i hi⟩
theorem BS.app {r k N : Nat} {pl : List Int32} (hr : r ≠ 230) (hB : BS M r k N pl) (hl : pl.length < N) (v : Int32) : BS (up2 (up2 M r (4 + pl.length) v) 230 k (nI (4 + pl.length + 1))) r k N (pl ++ [v]) := by
  refine ⟨by rw [up2_eq, List.length_append]; rfl, by simp; omega, fun i hi => ?_⟩
  rw [up2_na hr]
  have hi : i < pl.length + 1 := by simpa using hi
  by_cases e : i = pl.length
  · subst e
    rw [up2_eq, List.getD_eq_getElem?_getD, List.getElem?_append_right (Nat.le_refl _), Nat.sub_self]; rfl
  · rw [up2_ni (by omega), List.getD_eq_getElem?_getD, List.getElem?_append_left (by omega), ← List.getD_eq_getElem?_getD]
    exact hB.2.2 i (by omega)
theorem t115_2 (v : Int32) : ∀ (m k n : Nat) (M : Nat → Nat → Int32) (pl : List Int32) (h : ag_H), pl.length + m ≤ 30 → k + m ≤ 4 → TA A M h → AS M pl →
    ∃ h' M', g115 (ag_run gT d) (n + m + 1) (some 230) v (nI (k + m)) (nI k) h = some (.inl none, h') ∧ TA A M' h' ∧ AS M' (pl ++ (List.range m).map fun i => by8 v (8 * (k + i))) ∧ FA M M' := by
  intro m
  induction m with
  | zero =>
    intro k n M pl h hl hk hT hA
    refine ⟨h, M, ?_, hT, by simpa using hA, fun _ _ _ _ => rfl⟩
    show f115_2 _ _ _ _ _ _ _ = _
    unfold f115_2
    rw [if_pos (nI_le (by omega) (by omega))]
  | succ m ih =>
    intro k n M pl h hl hk hT hA
    have T1 := hT.sx (a := 244) (c := 100) (i := 4 + pl.length) rfl (by8 v (8 * k))
    have r1 : up2 M 244 (4 + pl.length) (by8 v (8 * k)) 230 17 = nI (4 + pl.length) := by rw [up2_na (by decide)]; exact hA.1
    have T2 := T1.sI (k := 17) rfl (nI (4 + pl.length + 1))
    obtain ⟨h3, M3, e3, T3, A3, F3⟩ := ih (k + 1) n _ (pl ++ [by8 v (8 * k)]) _ (by simp; omega) (by omega) T2 (hA.app (by decide) (by omega) _)
    refine ⟨h3, M3, ?_, T3, ?_, fun b j h1 h2 => by rw [F3 b j h1 h2, up2_ne h2, up2_na h1]⟩
    · rw [show n + (m + 1) + 1 = (n + m + 1) + 1 by omega]
      show f115_2 _ _ _ _ _ _ _ = _
      unfold f115_2
      have hb : (v.toUInt32 >>> ((nI 8 * nI k).toUInt32 &&& Int32.toUInt32 31)).toInt32 &&& nI 255 = by8 v (8 * k) := by rw [nI_mul]; rfl
      rw [if_neg (nI_ge (by omega) (by omega)), hT.rR (k := 16) (b := 244) rfl rfl, hT.rI (k := 17) rfl, hA.1, lit8_8, lit16_255, hb, hT.wx (a := 244) (c := 100) (i := 4 + pl.length) rfl (show 4 + pl.length < 40 by omega), T1.rI (k := 17) rfl, r1, lit_1, nI_add, T1.wI (k := 17) rfl, nI_add, show k + (m + 1) = k + 1 + m by omega]
      exact e3
    · rw [List.range_succ_eq_map, List.map_cons, List.map_map]
      rw [List.append_assoc] at A3
      have e9 : ((fun i => by8 v (8 * (k + i))) ∘ Nat.succ) = fun i => by8 v (8 * (k + 1 + i)) := by
        funext i
        show by8 v (8 * (k + (i + 1))) = _
        rw [show k + (i + 1) = k + 1 + i by omega]
      rw [e9]
      exact A3
theorem TA.t115 (hT : TA A M h) {pl : List Int32} (hA : AS M pl) (v : Int32) {n : Nat} (hn : n ≤ 4) (hl : pl.length + n ≤ 30) : ∃ h' M', ag_run gT (d + 1) 115 [.inr (some 230), .inl v, .inl (nI n)] h = some (.inl none, h') ∧ TA A M' h' ∧ AS M' (pl ++ le v n) ∧ FA M M' := by
  obtain ⟨h', M', e, T, B, F⟩ := t115_2 (d := d) v n 0 (3999 - n) M pl h hl (by omega) hT hA
  refine ⟨h', M', ?_, T, ?_, F⟩
  · rw [r115]
    unfold f115
    rw [lit_0]
    rw [show 3999 - n + n + 1 = 4000 by omega, Nat.zero_add] at e
    exact e
  · unfold le
    simp only [Nat.zero_add] at B
    exact B
theorem t116_2 (v : Int32) : ∀ (m k n : Nat) (M : Nat → Nat → Int32) (pl : List Int32) (h : ag_H), pl.length + m ≤ 18 → k + m ≤ 4 → TA A M h → RS M pl →
    ∃ h' M', g116 (ag_run gT d) (n + m + 1) (some 230) v (nI (k + m)) (nI k) h = some (.inl none, h') ∧ TA A M' h' ∧ RS M' (pl ++ (List.range m).map fun i => by8 v (8 * (k + i))) ∧ FB M M' := by
  intro m
  induction m with
  | zero =>
    intro k n M pl h hl hk hT hA
    refine ⟨h, M, ?_, hT, by simpa using hA, fun _ _ _ _ => rfl⟩
    show f116_2 _ _ _ _ _ _ _ = _
    unfold f116_2
    rw [if_pos (nI_le (by omega) (by omega))]
  | succ m ih =>
    intro k n M pl h hl hk hT hA
    have T1 := hT.sx (a := 245) (c := 100) (i := 4 + pl.length) rfl (by8 v (8 * k))
    have r1 : up2 M 245 (4 + pl.length) (by8 v (8 * k)) 230 19 = nI (4 + pl.length) := by rw [up2_na (by decide)]; exact hA.1
    have T2 := T1.sI (k := 19) rfl (nI (4 + pl.length + 1))
    obtain ⟨h3, M3, e3, T3, A3, F3⟩ := ih (k + 1) n _ (pl ++ [by8 v (8 * k)]) _ (by simp; omega) (by omega) T2 (hA.app (by decide) (by omega) _)
    refine ⟨h3, M3, ?_, T3, ?_, fun b j h1 h2 => by rw [F3 b j h1 h2, up2_ne h2, up2_na h1]⟩
    · rw [show n + (m + 1) + 1 = (n + m + 1) + 1 by omega]
      show f116_2 _ _ _ _ _ _ _ = _
      unfold f116_2
      have hb : (v.toUInt32 >>> ((nI 8 * nI k).toUInt32 &&& Int32.toUInt32 31)).toInt32 &&& nI 255 = by8 v (8 * k) := by rw [nI_mul]; rfl
      rw [if_neg (nI_ge (by omega) (by omega)), hT.rR (k := 18) (b := 245) rfl rfl, hT.rI (k := 19) rfl, hA.1, lit8_8, lit16_255, hb, hT.wx (a := 245) (c := 100) (i := 4 + pl.length) rfl (show 4 + pl.length < 24 by omega), T1.rI (k := 19) rfl, r1, lit_1, nI_add, T1.wI (k := 19) rfl, nI_add, show k + (m + 1) = k + 1 + m by omega]
      exact e3
    · rw [List.range_succ_eq_map, List.map_cons, List.map_map]
      rw [List.append_assoc] at A3
      have e9 : ((fun i => by8 v (8 * (k + i))) ∘ Nat.succ) = fun i => by8 v (8 * (k + 1 + i)) := by
        funext i
        show by8 v (8 * (k + (i + 1))) = _
        rw [show k + (i + 1) = k + 1 + i by omega]
      rw [e9]
      exact A3
theorem TA.t116 (hT : TA A M h) {pl : List Int32} (hA : RS M pl) (v : Int32) {n : Nat} (hn : n ≤ 4) (hl : pl.length + n ≤ 18) : ∃ h' M', ag_run gT (d + 1) 116 [.inr (some 230), .inl v, .inl (nI n)] h = some (.inl none, h') ∧ TA A M' h' ∧ RS M' (pl ++ le v n) ∧ FB M M' := by
  obtain ⟨h', M', e, T, B, F⟩ := t116_2 (d := d) v n 0 (3999 - n) M pl h hl (by omega) hT hA
  refine ⟨h', M', ?_, T, ?_, F⟩
  · rw [r116]
    unfold f116
    rw [lit_0]
    rw [show 3999 - n + n + 1 = 4000 by omega, Nat.zero_add] at e
    exact e
  · unfold le
    simp only [Nat.zero_add] at B
    exact B
end RA

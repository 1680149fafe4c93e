/-! THE START: the class and the reference as their constructors leave them -/
section ST0
def V00 : zV := (1, fun _ => (true, true, 0, none, [], nI 0), fun h => if h = 0 then some 0 else none, nI 1)
def S00 : zS := (fun _ => V00, 0, nI 104, [0, 0, 0, 0], nI 105, [1, 0, 0, 0, 0, 0, 0, 0, 0])
def Q00 : Nat → Option Nat := fun p => if p = 0 then some 0 else none
def P00 : Nat → List zP := fun _ => []
def O00 : Nat → Nat → zU := fun _ _ => (false, [], 0, 0, 0, 0)
def X00 : zX := ([], [], none, none)
def W00 : zW := (0, 0, 0, false)
theorem vlv00 : vlv V00 = [0] := by decide
theorem V00_w : VW V00 := by
  refine ⟨Nat.le_refl _, (by decide), (by rw [vlv00]; decide), fun h i hi => ?_, fun h hh => ?_, fun i hi => ⟨(show 0 < 8 by decide), fun p hp9 => (by cases hp9), Nat.zero_le _, fun b hb => (by cases hb)⟩, rfl, rfl, rfl, fun i hi p hp9 => (by cases hp9)⟩
  · have hi : (if h = 0 then some 0 else none) = some i := hi
    split at hi
    · cases hi; exact Nat.zero_lt_one
    · cases hi
  · show (if h = 0 then some 0 else none) = none
    rw [if_neg (by omega)]
set_option maxRecDepth 100000 in
theorem st_kd : kd0 2 = 7 ∧ kd0 11 = 7 ∧ kd0 9 = 9 ∧ kd0 18 = 9 ∧ ln0 10 = 0 ∧ ln0 19 = 0 := by decide +kernel
set_option maxRecDepth 100000 in
theorem st_R : (∀ s, s < 2 → R0 (7 + 9 * s) 0 = some (9 + 9 * s)) ∧ ∀ s, s < 2 → ∀ h, h < 128 → R0 (8 + 9 * s) h = (if h = 0 then some (9 + 9 * s) else none) := by decide +kernel
set_option maxRecDepth 100000 in
theorem st_I : ∀ s, s < 2 → I0 (2 + 9 * s) 4 = nI 1 ∧ I0 (2 + 9 * s) 5 = nI 1 ∧ I0 (9 + 9 * s) 0 = nI 0 ∧ I0 (9 + 9 * s) 1 = -1 ∧ I0 (9 + 9 * s) 3 = nI 1 ∧ I0 (9 + 9 * s) 5 = nI 0 ∧ I0 (9 + 9 * s) 6 = nI 0 ∧ I0 (9 + 9 * s) 7 = nI 0 ∧ I0 (3 + 9 * s) 1 = nI 11 ∧ I0 (3 + 9 * s) 2 = nI 1 ∧ I0 (5 + 9 * s) 1 = nI 16 ∧ I0 (5 + 9 * s) 2 = nI 1 := by decide +kernel
set_option maxRecDepth 100000 in
theorem st_M : (∀ s, s < 2 → ∀ i, i < 11 → I0 (4 + 9 * s) i = (msg (nI 104) [0, 0, 0, 0]).getD i 0) ∧ ∀ s, s < 2 → ∀ i, i < 16 → I0 (6 + 9 * s) i = (msg (nI 105) [1, 0, 0, 0, 0, 0, 0, 0, 0]).getD i 0 := by decide +kernel
theorem st_q {s : Nat} (hs : s < 2) : MM I0 (3 + 9 * s) (nI 104) [0, 0, 0, 0] (nI 1) := by
  obtain ⟨-, -, -, -, -, -, -, -, a, b, -, -⟩ := st_I s hs
  exact ⟨a, b, fun i hi => by rw [show 3 + 9 * s + 1 = 4 + 9 * s by omega]; exact st_M.1 s hs i hi, by decide⟩
theorem st_r {s : Nat} (hs : s < 2) : MM I0 (5 + 9 * s) (nI 105) [1, 0, 0, 0, 0, 0, 0, 0, 0] (nI 1) := by
  obtain ⟨-, -, -, -, -, -, -, -, -, -, a, b⟩ := st_I s hs
  exact ⟨a, b, fun i hi => by rw [show 5 + 9 * s + 1 = 6 + 9 * s by omega]; exact st_M.2 s hs i hi, by decide⟩
theorem st_SB {s : Nat} (hs : s < 2) : SB kd0 ln0 I0 R0 (2 + 9 * s) (fun _ => 9 + 9 * s) V00 := by
  obtain ⟨i1, i2, i3, i4, i5, i6, i7, i8, -, -, -, -⟩ := st_I s hs
  have hk : kd0 (2 + 9 * s) = 7 ∧ kd0 (9 + 9 * s) = 9 ∧ ln0 (9 + 9 * s + 1) = 0 := by
    have : s = 0 ∨ s = 1 := by omega
    rcases this with rfl | rfl
    · exact ⟨st_kd.1, st_kd.2.2.1, st_kd.2.2.2.2.1⟩
    · exact ⟨st_kd.2.1, st_kd.2.2.2.1, st_kd.2.2.2.2.2⟩
  refine ⟨⟨hk.1, V00_w, by rw [vlv00]; exact i1, i2, fun i hi => ?_, fun h hh => ?_, fun i hi => ?_⟩, ⟨_, _, by rw [show 2 + 9 * s + 1 = 3 + 9 * s by omega]; exact st_q hs⟩, ⟨_, _, _, by rw [show 2 + 9 * s + 3 = 5 + 9 * s by omega]; exact st_r hs⟩⟩
  · rw [vlv00] at hi
    have : i = 0 := by simp at hi; exact hi
    subst this
    rw [show 2 + 9 * s + 5 = 7 + 9 * s by omega]
    exact st_R.1 s hs
  · rw [show 2 + 9 * s + 6 = 8 + 9 * s by omega, st_R.2 s hs h hh]
    show _ = (if h = 0 then some 0 else none).map _
    split <;> rfl
  · have : i = 0 := by have hi : i < 1 := hi; omega
    subst this
    exact ⟨hk.2.1, i3, i4, fun h9 => absurd rfl h9, i5, i6, i7, i8, hk.2.2, fun p hp9 => absurd hp9 (Nat.not_lt_zero _)⟩
set_option maxRecDepth 100000 in
theorem st_NS : ∀ j, j < 4 → kd0 (34 + 49 * j) = 2 ∧ I0 (34 + 49 * j) 1 = nI 0 ∧ (∀ i, i < 4 → R0 (34 + 49 * j + 1) i = some (34 + 49 * j + 2 + 5 * i)) ∧ ∀ k, k < 4 → kd0 (34 + 49 * j + 2 + 5 * k) = 5 := by decide +kernel
set_option maxRecDepth 100000 in
theorem st_PR : ∀ p, p < 4 → R0 (56 + 49 * p) 1 = (Q00 p).map (fun j => 34 + 49 * j) ∧ I0 (34 + 49 * p) 2 = nI (usr Q00 p) := by decide +kernel
set_option maxRecDepth 100000 in
theorem st_OF : ∀ p, p < 4 → ∀ f, f < 5 → I0 (58 + 49 * p + 5 * f) 1 = nI 0 ∧ I0 (58 + 49 * p + 5 * f) 2 = nI 0 ∧ I0 (58 + 49 * p + 5 * f) 3 = nI 0 ∧ I0 (58 + 49 * p + 5 * f) 4 = nI 0 ∧ I0 (58 + 49 * p + 5 * f) 5 = nI 0 ∧ I0 (58 + 49 * p + 5 * f + 1) 3 = nI 0 := by decide +kernel
set_option maxRecDepth 100000 in
theorem st_TX : I0 22 1 = nI 0 ∧ I0 24 1 = nI 0 ∧ I0 26 2 = nI 0 ∧ I0 28 2 = nI 0 ∧ I0 30 3 = nI 0 ∧ I0 0 8 = nI 0 ∧ I0 0 9 = nI 0 ∧ I0 0 10 = nI 0 ∧ I0 0 11 = nI 0 ∧ I0 0 12 = nI 0 ∧ (∀ i, i < 24 → I0 23 i = nI 0) ∧ ∀ i, i < 24 → I0 25 i = nI 0 := by decide +kernel
theorem st_CT {a : Nat} (h1 : I0 a 1 = nI 0) (h2 : ∀ i, i < 24 → I0 (a + 1) i = nI 0) : CT I0 a [] := ⟨h1, Nat.zero_le _, fun i hi => absurd hi (Nat.not_lt_zero _), fun i hi => ⟨0, by decide, h2 i hi⟩, fun x hx => by cases hx⟩
theorem st_CA : CA 263 10621 I0 (fun _ k => k) S00 Q00 (P00, O00, []) X00 W00 (hp 263 10621 kd0 ln0 I0 R0) := by
  obtain ⟨t1, t2, t3, t4, t5, t6, t7, t8, t9, t10, t11, t12⟩ := st_TX
  refine ⟨kd0, ln0, I0, R0, fun s _ => 9 + 9 * s, rfl, ⟨fun a _ => ⟨rfl, rfl⟩, fun a i _ _ => rfl, fun a ha => ⟨Or.inr (Or.inr (kd0_999 a ha)), fun h => ?_⟩⟩, Nat.le_refl _, fun b hb => kd0_999 b (by omega), ⟨fun s hs => st_SB hs, ⟨fun s i hs hi => ⟨Or.inl rfl, (by show 9 + 9 * s + 1 < 263; omega)⟩, fun s t i j hs ht hi hj hn => ?_⟩, (by decide), t6, ⟨_, st_q (s := 0) (by decide)⟩, ⟨_, st_r (s := 0) (by decide)⟩⟩, fun j hj => ?_, fun p hp9 => ?_, fun p f hp9 hf => ?_, ⟨st_CT t1 t11, st_CT t2 t12, ⟨t3, fun ns h => (by cases h)⟩, ⟨t4, fun ns h => (by cases h)⟩⟩, ⟨t7, t8, t9, t10⟩, ⟨t5, Nat.zero_le _, fun i hi => absurd hi (Nat.not_lt_zero _)⟩, fun b j _ _ => rfl⟩
  · rw [kd0_999 a ha] at h; cases h
  · have hi : i < 1 := hi
    have hj : j < 1 := hj
    have : s ≠ t := fun h => hn ⟨h, by omega⟩
    show 9 + 9 * s ≠ 9 + 9 * t ∧ 9 + 9 * s ≠ 9 + 9 * t + 1
    omega
  · obtain ⟨n1, n2, n3, n4⟩ := st_NS j hj
    exact ⟨n1, n2, Nat.zero_le _, fun i hi => ⟨hi, n3 i hi⟩, fun i j _ _ h => h, n4, fun p hp9 => (by cases hp9), fun i hi => absurd hi (Nat.not_lt_zero _)⟩
  · obtain ⟨p1, p2⟩ := st_PR p hp9
    refine ⟨p1, fun j hj => ?_, p2⟩
    have hj : (if p = 0 then some 0 else none) = some j := hj
    split at hj
    · cases hj; decide
    · cases hj
  · obtain ⟨o1, o2, o3, o4, o5, o6⟩ := st_OF p hp9 f hf
    exact ⟨o1, ⟨o6, Nat.zero_le _, fun i hi => absurd hi (Nat.not_lt_zero _)⟩, o2, o3, o4, o5⟩
set_option maxRecDepth 100000 in
theorem st_RV : ∀ s, s < 2 → I0 234 s = nI 1 ∧ I0 243 s = nI 1 ∧ I0 235 (300 * s) = nI 1 ∧ I0 236 (300 * s) = nI 1 ∧ I0 237 (300 * s) = -1 ∧ I0 238 (300 * s) = -1 ∧ ∀ x, x < 200 → I0 242 (200 * s + x) = nI (sN (if x = 0 then some 0 else none)) := by decide +kernel
set_option maxRecDepth 100000 in
theorem st_RG : I0 230 17 = nI 11 ∧ I0 230 19 = nI 16 ∧ (∀ i, i < 11 → I0 244 i = (msg (nI 104) [0, 0, 0, 0]).getD i 0) ∧ (∀ i, i < 16 → I0 245 i = (msg (nI 105) [1, 0, 0, 0, 0, 0, 0, 0, 0]).getD i 0) ∧ I0 230 0 = nI 0 ∧ I0 230 2 = nI 0 ∧ I0 254 0 = nI 0 ∧ ∀ p, p < 4 → I0 253 p = bI (Q00 p).isSome := by decide +kernel
set_option maxRecDepth 100000 in
theorem st_0 (j : Nat) : I0 239 j = 0 ∧ I0 240 j = 0 ∧ I0 246 j = 0 ∧ I0 255 j = 0 ∧ I0 252 j = 0 := ⟨rfl, rfl, rfl, rfl, rfl⟩
theorem st_RR : RR S00 P00 Q00 O00 ([], []) I0 := by
  obtain ⟨g1, g2, g3, g4, g5, g6, g7, g8⟩ := st_RG
  refine ⟨fun s hs => ?_, ⟨⟨g1, by decide, g3⟩, ⟨g2, by decide, g4⟩⟩, fun j hj => ⟨(st_0 j).2.2.1, fun k hk => absurd hk (Nat.not_lt_zero _)⟩, fun p hp9 => ⟨g8 p hp9, fun j hj => ?_⟩, fun p f hp9 hf => ⟨fun _ => (st_0 _).2.2.2.1, fun h => (by cases h)⟩, ⟨g5, Nat.zero_le _, fun x hx => (by cases hx), fun i hi => absurd hi (Nat.not_lt_zero _), g6, Nat.zero_le _, fun x hx => (by cases hx), fun i hi => absurd hi (Nat.not_lt_zero _)⟩⟩
  · obtain ⟨r1, r2, r3, r4, r5, r6, r7⟩ := st_RV s hs
    refine ⟨r1, r2, fun i hi => ?_, fun i _ _ => ⟨(st_0 _).1, (st_0 _).2.1⟩, r7⟩
    have : i = 0 := by have hi : i < 1 := hi; omega
    subst this
    exact ⟨r3, r4, r5, r6, (st_0 _).1, (st_0 _).2.1, fun q hq => absurd hq (Nat.not_lt_zero _)⟩
  · have hj : (if p = 0 then some 0 else none) = some j := hj
    split at hj
    · rename_i h9
      cases hj
      rw [h9]
      exact ⟨g7, by decide⟩
    · cases hj
theorem st_IV : IV 0 S00 P00 Q00 O00 X00 := by
  refine ⟨⟨fun s _ => V00_w, fun s h hs => ?_⟩, rfl, fun j _ => ⟨Nat.zero_le _, fun q hq => (by cases hq)⟩, fun p f _ _ h => (by cases h), fun j _ _ => rfl, (by decide)⟩
  have e : owL P00 O00 = [(0, 0), (1, 0)] := rfl
  rw [e]
  show _ = if (if h = 0 then some 0 else none : Option Nat).isSome then 1 else 0
  have : s = 0 ∨ s = 1 := by omega
  by_cases hh : h = 0
  · subst hh
    rcases this with rfl | rfl <;> decide
  · rw [if_neg hh]
    rw [List.count_eq_zero.mpr]
    · rfl
    · intro hm
      simp at hm
      rcases hm with ⟨-, h9⟩ | ⟨-, h9⟩ <;> exact hh h9
/-- the start -/
theorem Cm_0 : Cm 0 (hp 263 10621 kd0 ln0 I0 R0) := ⟨263, 10621, _, S00, Q00, P00, O00, [], X00, W00, I0, st_CA, fun y => Or.inl (st_0 y).2.2.2.2, st_RR, st_IV, by decide, by decide⟩
end ST0

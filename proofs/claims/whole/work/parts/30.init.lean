/-! THE START: what the two constructors make -/
def kd0 : Nat → Nat := fun a => ([10, 103, 7, 1, 100, 1, 100, 106, 106, 9, 100, 7, 1, 100, 1, 100, 106, 106, 9, 100, 104, 105, 8, 101, 8, 101, 4, 101, 4, 101, 0, 100, 100, 102, 2, 107, 5, 0, 100, 100, 102, 5, 0, 100, 100, 102, 5, 0, 100, 100, 102, 5, 0, 100, 100, 102, 6, 108, 3, 0, 100, 100, 102, 3, 0, 100, 100, 102, 3, 0, 100, 100, 102, 3, 0, 100, 100, 102, 3, 0, 100, 100, 102, 2, 107, 5, 0, 100, 100, 102, 5, 0, 100, 100, 102, 5, 0, 100, 100, 102, 5, 0, 100, 100, 102, 6, 108, 3, 0, 100, 100, 102, 3, 0, 100, 100, 102, 3, 0, 100, 100, 102, 3, 0, 100, 100, 102, 3, 0, 100, 100, 102, 2, 107, 5, 0, 100, 100, 102, 5, 0, 100, 100, 102, 5, 0, 100, 100, 102, 5, 0, 100, 100, 102, 6, 108, 3, 0, 100, 100, 102, 3, 0, 100, 100, 102, 3, 0, 100, 100, 102, 3, 0, 100, 100, 102, 3, 0, 100, 100, 102, 2, 107, 5, 0, 100, 100, 102, 5, 0, 100, 100, 102, 5, 0, 100, 100, 102, 5, 0, 100, 100, 102, 6, 108, 3, 0, 100, 100, 102, 3, 0, 100, 100, 102, 3, 0, 100, 100, 102, 3, 0, 100, 100, 102, 3, 0, 100, 100, 102, 11, 101, 101, 100, 100, 102, 102, 100, 100, 100, 100, 100, 100, 100, 100, 100, 100, 100, 100, 100, 100, 100, 102, 102, 100, 100, 102, 100, 100, 100, 100, 100] : List Nat).getD a 999
def ln0 : Nat → Nat := fun a => ([13, 2, 6, 3, 20, 3, 20, 20, 128, 8, 0, 6, 3, 20, 3, 20, 20, 128, 8, 0, 4, 4, 2, 24, 2, 24, 3, 12, 3, 12, 4, 3, 3, 3, 3, 4, 3, 4, 3, 3, 3, 3, 4, 3, 3, 3, 3, 4, 3, 3, 3, 3, 4, 3, 3, 3, 2, 5, 6, 4, 3, 3, 3, 6, 4, 3, 3, 3, 6, 4, 3, 3, 3, 6, 4, 3, 3, 3, 6, 4, 3, 3, 3, 3, 4, 3, 4, 3, 3, 3, 3, 4, 3, 3, 3, 3, 4, 3, 3, 3, 3, 4, 3, 3, 3, 2, 5, 6, 4, 3, 3, 3, 6, 4, 3, 3, 3, 6, 4, 3, 3, 3, 6, 4, 3, 3, 3, 6, 4, 3, 3, 3, 3, 4, 3, 4, 3, 3, 3, 3, 4, 3, 3, 3, 3, 4, 3, 3, 3, 3, 4, 3, 3, 3, 2, 5, 6, 4, 3, 3, 3, 6, 4, 3, 3, 3, 6, 4, 3, 3, 3, 6, 4, 3, 3, 3, 6, 4, 3, 3, 3, 3, 4, 3, 4, 3, 3, 3, 3, 4, 3, 3, 3, 3, 4, 3, 3, 3, 3, 4, 3, 3, 3, 2, 5, 6, 4, 3, 3, 3, 6, 4, 3, 3, 3, 6, 4, 3, 3, 3, 6, 4, 3, 3, 3, 6, 4, 3, 3, 3, 42, 24, 24, 12, 2, 600, 600, 600, 600, 600, 600, 4800, 400, 2, 40, 24, 4, 16, 16, 16, 48, 48, 48, 4, 4, 20, 20, 60, 60, 20, 20, 20] : List Nat).getD a 0
def ii0 : List (List (Nat × Int32)) := [[], [], [(4, 1), (5, 1)], [(1, 11), (2, 1)], [(0, 11), (4, 104), (5, 1)], [(1, 16), (2, 1)], [(0, 16), (4, 105), (5, 1), (7, 1)], [], [], [(1, -1), (3, 1)], [], [(4, 1), (5, 1)], [(1, 11), (2, 1)], [(0, 11), (4, 104), (5, 1)], [(1, 16), (2, 1)], [(0, 16), (4, 105), (5, 1), (7, 1)], [], [], [(1, -1), (3, 1)], [], [], [], [], [], [], [], [], [], [], [], [], [], [], [], [(2, 1)], [], [], [], [], [], [], [], [], [], [], [], [], [], [], [], [], [], [], [], [], [], [], [], [], [], [], [], [], [], [], [], [], [], [], [], [], [], [], [], [], [], [], [], [], [], [], [], [], [], [], [], [], [], [], [], [], [], [], [], [], [], [], [], [], [], [], [], [], [], [], [], [], [], [], [], [], [], [], [], [], [], [], [], [], [], [], [], [], [], [], [], [], [], [], [], [], [], [], [], [], [], [], [], [], [], [], [], [], [], [], [], [], [], [], [], [], [], [], [], [], [], [], [], [], [], [], [], [], [], [], [], [], [], [], [], [], [], [], [], [], [], [], [], [], [], [], [], [], [], [], [], [], [], [], [], [], [], [], [], [], [], [], [], [], [], [], [], [], [], [], [], [], [], [], [], [], [], [], [], [], [], [], [], [], [], [], [], [], [], [], [], [], [], [], [], [(17, 11), (19, 16)], [], [], [], [(0, 1), (1, 1)], [(0, 1), (300, 1)], [(0, 1), (300, 1)], [(0, -1), (300, -1)], [(0, -1), (300, -1)], [], [], [], [(0, 1), (200, 1)], [(0, 1), (1, 1)], [(0, 11), (4, 104), (5, 1)], [(0, 16), (4, 105), (5, 1), (7, 1)], [], [], [], [], [], [], [], [(0, 1)], [], [], [], [], [], [], [], []]
def rr0 : List (List (Nat × Nat)) := [[(0, 1), (1, 20), (2, 21), (3, 22), (4, 24), (5, 26), (6, 28), (7, 30)], [(0, 2), (1, 11)], [(0, 3), (1, 5), (2, 7), (3, 8)], [(0, 4)], [], [(0, 6)], [], [(0, 9)], [(0, 9)], [(4, 10)], [], [(0, 12), (1, 14), (2, 16), (3, 17)], [(0, 13)], [], [(0, 15)], [], [(0, 18)], [(0, 18)], [(4, 19)], [], [(0, 34), (1, 83), (2, 132), (3, 181)], [(0, 56), (1, 105), (2, 154), (3, 203)], [(0, 23)], [], [(0, 25)], [], [(0, 27)], [], [(0, 29)], [], [(0, 31), (1, 32), (2, 33)], [], [], [], [(0, 35)], [(0, 36), (1, 41), (2, 46), (3, 51)], [(0, 37)], [(0, 38), (1, 39), (2, 40)], [], [], [], [(0, 42)], [(0, 43), (1, 44), (2, 45)], [], [], [], [(0, 47)], [(0, 48), (1, 49), (2, 50)], [], [], [], [(0, 52)], [(0, 53), (1, 54), (2, 55)], [], [], [], [(0, 57), (1, 34)], [(0, 58), (1, 63), (2, 68), (3, 73), (4, 78)], [(0, 59)], [(0, 60), (1, 61), (2, 62)], [], [], [], [(0, 64)], [(0, 65), (1, 66), (2, 67)], [], [], [], [(0, 69)], [(0, 70), (1, 71), (2, 72)], [], [], [], [(0, 74)], [(0, 75), (1, 76), (2, 77)], [], [], [], [(0, 79)], [(0, 80), (1, 81), (2, 82)], [], [], [], [(0, 84)], [(0, 85), (1, 90), (2, 95), (3, 100)], [(0, 86)], [(0, 87), (1, 88), (2, 89)], [], [], [], [(0, 91)], [(0, 92), (1, 93), (2, 94)], [], [], [], [(0, 96)], [(0, 97), (1, 98), (2, 99)], [], [], [], [(0, 101)], [(0, 102), (1, 103), (2, 104)], [], [], [], [(0, 106)], [(0, 107), (1, 112), (2, 117), (3, 122), (4, 127)], [(0, 108)], [(0, 109), (1, 110), (2, 111)], [], [], [], [(0, 113)], [(0, 114), (1, 115), (2, 116)], [], [], [], [(0, 118)], [(0, 119), (1, 120), (2, 121)], [], [], [], [(0, 123)], [(0, 124), (1, 125), (2, 126)], [], [], [], [(0, 128)], [(0, 129), (1, 130), (2, 131)], [], [], [], [(0, 133)], [(0, 134), (1, 139), (2, 144), (3, 149)], [(0, 135)], [(0, 136), (1, 137), (2, 138)], [], [], [], [(0, 140)], [(0, 141), (1, 142), (2, 143)], [], [], [], [(0, 145)], [(0, 146), (1, 147), (2, 148)], [], [], [], [(0, 150)], [(0, 151), (1, 152), (2, 153)], [], [], [], [(0, 155)], [(0, 156), (1, 161), (2, 166), (3, 171), (4, 176)], [(0, 157)], [(0, 158), (1, 159), (2, 160)], [], [], [], [(0, 162)], [(0, 163), (1, 164), (2, 165)], [], [], [], [(0, 167)], [(0, 168), (1, 169), (2, 170)], [], [], [], [(0, 172)], [(0, 173), (1, 174), (2, 175)], [], [], [], [(0, 177)], [(0, 178), (1, 179), (2, 180)], [], [], [], [(0, 182)], [(0, 183), (1, 188), (2, 193), (3, 198)], [(0, 184)], [(0, 185), (1, 186), (2, 187)], [], [], [], [(0, 189)], [(0, 190), (1, 191), (2, 192)], [], [], [], [(0, 194)], [(0, 195), (1, 196), (2, 197)], [], [], [], [(0, 199)], [(0, 200), (1, 201), (2, 202)], [], [], [], [(0, 204)], [(0, 205), (1, 210), (2, 215), (3, 220), (4, 225)], [(0, 206)], [(0, 207), (1, 208), (2, 209)], [], [], [], [(0, 211)], [(0, 212), (1, 213), (2, 214)], [], [], [], [(0, 216)], [(0, 217), (1, 218), (2, 219)], [], [], [], [(0, 221)], [(0, 222), (1, 223), (2, 224)], [], [], [], [(0, 226)], [(0, 227), (1, 228), (2, 229)], [], [], [], [(1, 231), (3, 232), (5, 233), (6, 234), (7, 235), (8, 236), (9, 237), (10, 238), (11, 239), (12, 240), (13, 241), (14, 242), (15, 243), (16, 244), (18, 245), (22, 246), (23, 247), (24, 248), (25, 249), (26, 250), (27, 251), (28, 252), (29, 253), (30, 254), (31, 255), (32, 256), (33, 257), (34, 258), (35, 259), (36, 260), (37, 261)], [], [], [], [], [], [], [], [], [], [], [], [], [], [], [], [], [], [], [], [], [], [], [], [], [], [], [], [], [], [], []]
def I0 : Nat → Nat → Int32 := fun a i => (((ii0.getD a []).lookup i).getD 0)
def R0 : Nat → Nat → Option Nat := fun a i => (rr0.getD a []).lookup i
def cl0 (a : Nat) : ag_C := (kd0 a, (List.range (ln0 a)).map (hv (kd0 a) (I0 a) (R0 a)))
/-- a heap that holds at the addresses below n what the table says -/
def ckH (z sl lo n : Nat) (r : ag_R) : Bool := match r with
  | some (.inl none, h) => Nat.beq h.1 z && Nat.beq h.2.1 sl && (List.range n).all fun a => decide (h.2.2 (lo + a) = some (cl0 (lo + a)))
  | _ => false
set_option maxRecDepth 100000 in
set_option maxHeartbeats 4000000 in
theorem ini_c0 : ckH 230 1226 0 58 (ag_run gT 12 62 [.inr (some 0)] (ag_new (0, 0, fun _ => none) 13 (10, ag_fs 10))) = true := by decide +kernel
set_option maxRecDepth 100000 in
set_option maxHeartbeats 4000000 in
theorem ini_c1 : ckH 230 1226 58 58 (ag_run gT 12 62 [.inr (some 0)] (ag_new (0, 0, fun _ => none) 13 (10, ag_fs 10))) = true := by decide +kernel
set_option maxRecDepth 100000 in
set_option maxHeartbeats 4000000 in
theorem ini_c2 : ckH 230 1226 116 58 (ag_run gT 12 62 [.inr (some 0)] (ag_new (0, 0, fun _ => none) 13 (10, ag_fs 10))) = true := by decide +kernel
set_option maxRecDepth 100000 in
set_option maxHeartbeats 4000000 in
theorem ini_c3 : ckH 230 1226 174 56 (ag_run gT 12 62 [.inr (some 0)] (ag_new (0, 0, fun _ => none) 13 (10, ag_fs 10))) = true := by decide +kernel
def kdc : Nat → Nat := fun a => bif Nat.blt a 230 then kd0 a else 999
set_option maxRecDepth 100000 in
set_option maxHeartbeats 4000000 in
theorem ini_m0 : ckH 262 10620 0 58 (ag_run gT 12 112 [.inr (some 230)] (ag_new (hp 230 1226 kdc ln0 I0 R0) 42 (11, ag_fs 11))) = true := by decide +kernel
set_option maxRecDepth 100000 in
set_option maxHeartbeats 4000000 in
theorem ini_m1 : ckH 262 10620 58 58 (ag_run gT 12 112 [.inr (some 230)] (ag_new (hp 230 1226 kdc ln0 I0 R0) 42 (11, ag_fs 11))) = true := by decide +kernel
set_option maxRecDepth 100000 in
set_option maxHeartbeats 4000000 in
theorem ini_m2 : ckH 262 10620 116 58 (ag_run gT 12 112 [.inr (some 230)] (ag_new (hp 230 1226 kdc ln0 I0 R0) 42 (11, ag_fs 11))) = true := by decide +kernel
set_option maxRecDepth 100000 in
set_option maxHeartbeats 4000000 in
theorem ini_m3 : ckH 262 10620 174 56 (ag_run gT 12 112 [.inr (some 230)] (ag_new (hp 230 1226 kdc ln0 I0 R0) 42 (11, ag_fs 11))) = true := by decide +kernel
set_option maxRecDepth 100000 in
set_option maxHeartbeats 4000000 in
theorem ini_m4 : ckH 262 10620 230 11 (ag_run gT 12 112 [.inr (some 230)] (ag_new (hp 230 1226 kdc ln0 I0 R0) 42 (11, ag_fs 11))) = true := by decide +kernel
set_option maxRecDepth 100000 in
set_option maxHeartbeats 4000000 in
theorem ini_m5 : ckH 262 10620 241 1 (ag_run gT 12 112 [.inr (some 230)] (ag_new (hp 230 1226 kdc ln0 I0 R0) 42 (11, ag_fs 11))) = true := by decide +kernel
set_option maxRecDepth 100000 in
set_option maxHeartbeats 4000000 in
theorem ini_m6 : ckH 262 10620 242 20 (ag_run gT 12 112 [.inr (some 230)] (ag_new (hp 230 1226 kdc ln0 I0 R0) 42 (11, ag_fs 11))) = true := by decide +kernel
/-- a heap that holds no more than another -/
def sbH (h h' : ag_H) : Prop := h.1 = h'.1 ∧ h.2.1 = h'.2.1 ∧ ∀ a q, h.2.2 a = some q → h'.2.2 a = some q
theorem sbH.rep {D : ag_D} {base : Nat → Prop} {h h' : ag_H} {H : Heap} (s : sbH h h') (hR : ag_rep D base h' H) : ag_rep D base h H := ⟨hR.1.trans s.1.symm, fun a q hq => hR.2 a q (s.2.2 a q hq)⟩
theorem ckH_ok {z sl lo n : Nat} {r : ag_R} (h : ckH z sl lo n r = true) : ∃ h', r = some (.inl none, h') ∧ h'.1 = z ∧ h'.2.1 = sl ∧ ∀ a, lo ≤ a → a < lo + n → h'.2.2 a = some (cl0 a) := by
  unfold ckH at h
  split at h
  · rename_i h'
    rw [Bool.and_eq_true, Bool.and_eq_true] at h
    refine ⟨h', rfl, Nat.eq_of_beq_eq_true h.1.1, Nat.eq_of_beq_eq_true h.1.2, fun a h1 h2 => ?_⟩
    have := of_decide_eq_true (List.all_eq_true.mp h.2 (a - lo) (List.mem_range.mpr (by omega)))
    rwa [show lo + (a - lo) = a by omega] at this
  · cases h
theorem getD_end (xs : List Nat) (n a : Nat) (hn : xs.length = n) (h : n ≤ a) : xs.getD a 999 = 999 := by
  rw [List.getD_eq_getElem?_getD, List.getElem?_eq_none (by omega)]
  rfl
set_option maxRecDepth 100000 in
theorem kd0_999 (a : Nat) (h : 262 ≤ a) : kd0 a = 999 := getD_end _ 262 a rfl h
theorem ini_class : ∃ h', ag_run gT 12 62 [.inr (some 0)] (ag_new (0, 0, fun _ => none) 13 (10, ag_fs 10)) = some (.inl none, h') ∧ sbH (hp 230 1226 kdc ln0 I0 R0) h' := by
  obtain ⟨h0, e0, z0, s0, a0⟩ := ckH_ok ini_c0
  obtain ⟨h1, e1, z1, s1, a1⟩ := ckH_ok ini_c1
  obtain ⟨h2, e2, z2, s2, a2⟩ := ckH_ok ini_c2
  obtain ⟨h3, e3, z3, s3, a3⟩ := ckH_ok ini_c3
  cases Option.some.inj (e0.symm.trans e1)
  cases Option.some.inj (e0.symm.trans e2)
  cases Option.some.inj (e0.symm.trans e3)
  refine ⟨_, e0, z0.symm, s0.symm, fun a q hq => ?_⟩
  have hk : ¬ kdc a = 999 := by
    intro h9
    have hq : (if kdc a = 999 then none else _) = some q := hq
    rw [if_pos h9] at hq
    cases hq
  have hlt : a < 230 := by
    refine Nat.lt_of_not_le fun h9 => hk ?_
    unfold kdc
    cases hb : Nat.blt a 230
    · rfl
    · exact absurd (g_lt hb) (by omega)
  have hc : cl0 a = q := by
    have hq : (if kdc a = 999 then none else some (kdc a, (List.range (ln0 a)).map (hv (kdc a) (I0 a) (R0 a)))) = some q := hq
    rw [if_neg hk] at hq
    have e9 : kdc a = kd0 a := by
      unfold kdc
      have hb : Nat.blt a 230 = true := Nat.ble_eq_true_of_le hlt
      rw [hb]; rfl
    rw [e9] at hq
    exact Option.some.inj hq
  rw [← hc]
  by_cases c0 : a < 58
  · exact a0 a (by omega) (by omega)
  by_cases c1 : a < 116
  · exact a1 a (by omega) (by omega)
  by_cases c2 : a < 174
  · exact a2 a (by omega) (by omega)
  exact a3 a (by omega) (by omega)
theorem ini_model : ∃ h', ag_run gT 12 112 [.inr (some 230)] (ag_new (hp 230 1226 kdc ln0 I0 R0) 42 (11, ag_fs 11)) = some (.inl none, h') ∧ sbH (hp 262 10620 kd0 ln0 I0 R0) h' := by
  obtain ⟨h0, e0, z0, s0, a0⟩ := ckH_ok ini_m0
  obtain ⟨h1, e1, z1, s1, a1⟩ := ckH_ok ini_m1
  obtain ⟨h2, e2, z2, s2, a2⟩ := ckH_ok ini_m2
  obtain ⟨h3, e3, z3, s3, a3⟩ := ckH_ok ini_m3
  obtain ⟨h4, e4, z4, s4, a4⟩ := ckH_ok ini_m4
  obtain ⟨h5, e5, z5, s5, a5⟩ := ckH_ok ini_m5
  obtain ⟨h6, e6, z6, s6, a6⟩ := ckH_ok ini_m6
  cases Option.some.inj (e0.symm.trans e1)
  cases Option.some.inj (e0.symm.trans e2)
  cases Option.some.inj (e0.symm.trans e3)
  cases Option.some.inj (e0.symm.trans e4)
  cases Option.some.inj (e0.symm.trans e5)
  cases Option.some.inj (e0.symm.trans e6)
  refine ⟨_, e0, z0.symm, s0.symm, fun a q hq => ?_⟩
  have hk : ¬ kd0 a = 999 := by
    intro h9
    have hq : (if kd0 a = 999 then none else _) = some q := hq
    rw [if_pos h9] at hq
    cases hq
  have hlt : a < 262 := by
    refine Nat.lt_of_not_le fun h9 => hk (kd0_999 a h9)
  have hc : cl0 a = q := by
    have hq : (if kd0 a = 999 then none else some (kd0 a, (List.range (ln0 a)).map (hv (kd0 a) (I0 a) (R0 a)))) = some q := hq
    rw [if_neg hk] at hq
    exact Option.some.inj hq
  rw [← hc]
  by_cases c0 : a < 58
  · exact a0 a (by omega) (by omega)
  by_cases c1 : a < 116
  · exact a1 a (by omega) (by omega)
  by_cases c2 : a < 174
  · exact a2 a (by omega) (by omega)
  by_cases c3 : a < 230
  · exact a3 a (by omega) (by omega)
  by_cases c4 : a < 241
  · exact a4 a (by omega) (by omega)
  by_cases c5 : a < 242
  · exact a5 a (by omega) (by omega)
  exact a6 a (by omega) (by omega)

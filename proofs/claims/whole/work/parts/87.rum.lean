/-! THE REFERENCE'S METHODS: dropPlace, unmount -/
section RUM
variable {A : zA} {M M' : Nat → Nat → Int32} {h : ag_H} {d s x i p f j o w k : Nat} {S S' : zS} {P : Nat → List zP} {Q : Nat → Option Nat} {O : Nat → Nat → zU} {F L G : List (Nat × Nat)} {W : zW} {X : List Nat × List Nat}
theorem t166_96 {l1 l3 : Int32} {i : Nat} (hi : i < 15) : ∀ (m t N : Nat) (M : Nat → Nat → Int32) (h : ag_H), t + m = 3 → TA A M h →
    ∃ h' M', (g166 (ag_run gT d) (N + m + 1)).2 (some 230) l1 l3 (nI i) (nI t) h = (g166 (ag_run gT d) N).1 (some 230) l1 l3 (nI (i + 1)) h' ∧ TA A M' h' ∧ (∀ b y, 250 ≤ b → b ≤ 252 → 3 * i + t ≤ y → y < 3 * i + 3 → M' b y = M b (y + 3)) ∧ ∀ b y, ¬ (250 ≤ b ∧ b ≤ 252 ∧ 3 * i + t ≤ y ∧ y < 3 * i + 3) → M' b y = M b y := by
  intro m
  induction m with
  | zero =>
    intro t N M h ht hT
    refine ⟨h, M, ?_, hT, fun b y _ _ h1 h2 => by omega, fun _ _ _ => rfl⟩
    show f166_96 (ag_run gT d) (g166 (ag_run gT d) N).1 (g166 (ag_run gT d) N).2 (some 230) l1 l3 (nI i) (nI t) h = _
    unfold f166_96
    rw [lit_3, lit_1, if_pos (nI_le (by omega) (by omega)), nI_add]
  | succ m ih =>
    intro t N M h ht hT
    have T1 := hT.sx (a := 250) (c := 100) (i := 3 * i + t) rfl (M 250 (3 * i + 3 + t))
    have T2 := T1.sx (a := 251) (c := 100) (i := 3 * i + t) rfl (M 251 (3 * i + 3 + t))
    have T3 := T2.sx (a := 252) (c := 102) (i := 3 * i + t) rfl (M 252 (3 * i + 3 + t)) (fun _ => hT.2 _)
    obtain ⟨h', M', e, T', q1, q2⟩ := ih (t + 1) N _ _ (by omega) T3
    refine ⟨h', M', ?_, T', fun b y h1 h2 h3 h4 => ?_, fun b y hb => ?_⟩
    · rw [show N + (m + 1) + 1 = (N + m + 1) + 1 by omega]
      show f166_96 (ag_run gT d) (g166 (ag_run gT d) (N + m + 1)).1 (g166 (ag_run gT d) (N + m + 1)).2 (some 230) l1 l3 (nI i) (nI t) h = _
      unfold f166_96
      rw [lit_3, lit_1, if_neg (nI_ge (by omega) (by omega)), hT.rR (k := 26) (b := 250) rfl rfl, hT.rR (k := 26) (b := 250) rfl rfl, nI_mul, nI_add, nI_add, nI_add, hT.rx (a := 250) (c := 100) (i := 3 * i + 3 + t) rfl (show 3 * i + 3 + t < 48 by omega), hT.wx (a := 250) (c := 100) (i := 3 * i + t) rfl (show 3 * i + t < 48 by omega),
        T1.rR (k := 27) (b := 251) rfl rfl, T1.rR (k := 27) (b := 251) rfl rfl, T1.rx (a := 251) (c := 100) (i := 3 * i + 3 + t) rfl (show 3 * i + 3 + t < 48 by omega), up2_na (by decide), T1.wx (a := 251) (c := 100) (i := 3 * i + t) rfl (show 3 * i + t < 48 by omega),
        T2.rR (k := 28) (b := 252) rfl rfl, T2.rR (k := 28) (b := 252) rfl rfl, T2.rx (a := 252) (c := 102) (i := 3 * i + 3 + t) rfl (show 3 * i + 3 + t < 48 by omega), up2_na (by decide), up2_na (by decide), b_B (hT.2 _), T2.wx (a := 252) (c := 102) (i := 3 * i + t) rfl (show 3 * i + t < 48 by omega), nI_add]
      exact e
    · rcases Nat.lt_or_ge (3 * i + t) y with h9 | h9
      · rw [q1 b y h1 h2 (by omega) h4, up2_ni (by omega), up2_ni (by omega), up2_ni (by omega)]
      · obtain rfl : y = 3 * i + t := by omega
        rw [q2 b _ (by omega), show 3 * i + t + 3 = 3 * i + 3 + t by omega]
        have : b = 250 ∨ b = 251 ∨ b = 252 := by omega
        rcases this with rfl | rfl | rfl
        · rw [up2_na (by decide), up2_na (by decide)]; exact up2_eq _ _ _ _
        · rw [up2_na (by decide)]; exact up2_eq _ _ _ _
        · exact up2_eq _ _ _ _
    · rw [q2 b y (by omega), up2_ne (by omega), up2_ne (by omega), up2_ne (by omega)]
theorem t166_27 (hp4 : p < 4) (hj : j < 4) {n : Nat} (hn : n < 4) : ∀ (m i N : Nat) (M : Nat → Nat → Int32) (h : ag_H), i + m = 4 * j + n → 5 * m + 1 ≤ N → TA A M h → M 254 p = nI j → M 246 j = nI n →
    ∃ h' M', (g166 (ag_run gT d) N).1 (some 230) (nI p) (nI (4 * j)) (nI i) h = some (.inl none, h') ∧ TA A M' h' ∧ (∀ b y, 247 ≤ b → b ≤ 249 → i ≤ y → y < 4 * j + n → M' b y = M b (y + 1)) ∧ (∀ b y, 250 ≤ b → b ≤ 252 → 3 * i ≤ y → y < 3 * (4 * j + n) → M' b y = M b (y + 3)) ∧ ∀ b y, ¬ (247 ≤ b ∧ b ≤ 249 ∧ i ≤ y ∧ y < 4 * j + n) → ¬ (250 ≤ b ∧ b ≤ 252 ∧ 3 * i ≤ y ∧ y < 3 * (4 * j + n)) → M' b y = M b y := by
  intro m
  induction m with
  | zero =>
    intro i N M h hi hN hT q1 p1
    obtain ⟨N, rfl⟩ : ∃ N', N = N' + 1 := ⟨N - 1, by omega⟩
    refine ⟨h, M, ?_, hT, fun b y _ _ h1 h2 => by omega, fun b y _ _ h1 h2 => by omega, fun _ _ _ _ => rfl⟩
    show f166_27 (ag_run gT d) (g166 (ag_run gT d) N).1 (g166 (ag_run gT d) N).2 (some 230) (nI p) (nI (4 * j)) (nI i) h = _
    unfold f166_27
    rw [hT.rR (k := 22) (b := 246) rfl rfl, hT.rR (k := 30) (b := 254) rfl rfl, hT.rx (a := 254) (c := 100) (i := p) rfl (show p < 4 from hp4), q1, hT.rx (a := 246) (c := 100) (i := j) rfl (show j < 4 from hj), p1, nI_add, if_pos (nI_le (by omega) (by omega))]
  | succ m ih =>
    intro i N M h hi hN hT q1 p1
    obtain ⟨N, rfl⟩ : ∃ N', N = N' + 3 + 1 := ⟨N - 4, by omega⟩
    have T1 := hT.sx (a := 247) (c := 100) (i := i) rfl (M 247 (i + 1))
    have T2 := T1.sx (a := 248) (c := 100) (i := i) rfl (M 248 (i + 1))
    have T3 := T2.sx (a := 249) (c := 100) (i := i) rfl (M 249 (i + 1))
    obtain ⟨h4, M4, e4, T4, r1, r2⟩ := t166_96 (d := d) (l1 := nI p) (l3 := nI (4 * j)) (i := i) (by omega) 3 0 N _ _ rfl T3
    have q4 : M4 254 p = nI j := by rw [r2 _ _ (by omega), up2_na (by decide), up2_na (by decide), up2_na (by decide)]; exact q1
    have p4 : M4 246 j = nI n := by rw [r2 _ _ (by omega), up2_na (by decide), up2_na (by decide), up2_na (by decide)]; exact p1
    obtain ⟨h', M', e, T', s1, s2, s3⟩ := ih (i + 1) N M4 h4 (by omega) (by omega) T4 q4 p4
    refine ⟨h', M', ?_, T', fun b y h1 h2 h3 h4 => ?_, fun b y h1 h2 h3 h4 => ?_, fun b y h1 h2 => ?_⟩
    · show f166_27 (ag_run gT d) (g166 (ag_run gT d) (N + 3)).1 (g166 (ag_run gT d) (N + 3)).2 (some 230) (nI p) (nI (4 * j)) (nI i) h = _
      unfold f166_27
      rw [hT.rR (k := 22) (b := 246) rfl rfl, hT.rR (k := 30) (b := 254) rfl rfl, hT.rx (a := 254) (c := 100) (i := p) rfl (show p < 4 from hp4), q1, hT.rx (a := 246) (c := 100) (i := j) rfl (show j < 4 from hj), p1, nI_add, if_neg (nI_ge (by omega) (by omega)), lit_1, lit_0, nI_add, hT.rR (k := 23) (b := 247) rfl rfl, hT.rR (k := 23) (b := 247) rfl rfl, hT.rx (a := 247) (c := 100) (i := i + 1) rfl (show i + 1 < 16 by omega), hT.wx (a := 247) (c := 100) (i := i) rfl (show i < 16 by omega),
        T1.rR (k := 24) (b := 248) rfl rfl, T1.rR (k := 24) (b := 248) rfl rfl, T1.rx (a := 248) (c := 100) (i := i + 1) rfl (show i + 1 < 16 by omega), up2_na (by decide), T1.wx (a := 248) (c := 100) (i := i) rfl (show i < 16 by omega),
        T2.rR (k := 25) (b := 249) rfl rfl, T2.rR (k := 25) (b := 249) rfl rfl, T2.rx (a := 249) (c := 100) (i := i + 1) rfl (show i + 1 < 16 by omega), up2_na (by decide), up2_na (by decide), T2.wx (a := 249) (c := 100) (i := i) rfl (show i < 16 by omega)]
      exact e4.trans e
    · rcases Nat.lt_or_ge i y with h9 | h9
      · rw [s1 b y h1 h2 (by omega) h4, r2 _ _ (by omega), up2_ni (by omega), up2_ni (by omega), up2_ni (by omega)]
      · obtain rfl : y = i := by omega
        rw [s3 b _ (by omega) (by omega), r2 _ _ (by omega)]
        have : b = 247 ∨ b = 248 ∨ b = 249 := by omega
        rcases this with rfl | rfl | rfl
        · rw [up2_na (by decide), up2_na (by decide)]; exact up2_eq _ _ _ _
        · rw [up2_na (by decide)]; exact up2_eq _ _ _ _
        · exact up2_eq _ _ _ _
    · rcases Nat.lt_or_ge y (3 * i + 3) with h9 | h9
      · rw [s3 b _ (by omega) (by omega), r1 b y h1 h2 (by omega) h9, up2_na (by omega), up2_na (by omega), up2_na (by omega)]
      · rw [s2 b y h1 h2 (by omega) h4, r2 _ _ (by omega), up2_na (by omega), up2_na (by omega), up2_na (by omega)]
    · rw [s3 b y (by omega) (by omega), r2 _ _ (by omega), up2_ne (by omega), up2_ne (by omega), up2_ne (by omega)]
theorem TA.t166 (hT : TA A M h) (hp4 : p < 4) (hj : j < 4) (q1 : M 254 p = nI j) {n : Nat} (hn : n < 4) (p1 : M 246 j = nI (n + 1)) (hk : k ≤ n) :
    ∃ h' M', ag_run gT (d + 1) 166 [.inr (some 230), .inl (nI p), .inl (nI (4 * j + k))] h = some (.inl none, h') ∧ TA A M' h' ∧ M' 246 j = nI n ∧ (∀ b y, 247 ≤ b → b ≤ 249 → 4 * j + k ≤ y → y < 4 * j + n → M' b y = M b (y + 1)) ∧ (∀ b y, 250 ≤ b → b ≤ 252 → 3 * (4 * j + k) ≤ y → y < 3 * (4 * j + n) → M' b y = M b (y + 3)) ∧ ∀ b y, ¬ (b = 246 ∧ y = j) → ¬ (247 ≤ b ∧ b ≤ 249 ∧ 4 * j + k ≤ y ∧ y < 4 * j + n) → ¬ (250 ≤ b ∧ b ≤ 252 ∧ 3 * (4 * j + k) ≤ y ∧ y < 3 * (4 * j + n)) → M' b y = M b y := by
  have T1 := hT.sx (a := 246) (c := 100) (i := j) rfl (nI n)
  obtain ⟨h', M', e, T', s1, s2, s3⟩ := t166_27 (d := d) hp4 hj hn (n - k) (4 * j + k) 4000 _ _ (by omega) (by omega) T1 (by rw [up2_na (by decide)]; exact q1) (up2_eq _ _ _ _)
  refine ⟨h', M', ?_, T', by rw [s3 _ _ (by omega) (by omega), up2_eq], fun b y h1 h2 h3 h4 => by rw [s1 b y h1 h2 h3 h4, up2_na (by omega)], fun b y h1 h2 h3 h4 => by rw [s2 b y h1 h2 h3 h4, up2_na (by omega)], fun b y h0 h1 h2 => by rw [s3 b y h1 h2, up2_ne h0]⟩
  rw [r166]
  unfold f166
  rw [hT.rR (k := 30) (b := 254) rfl rfl, hT.rx (a := 254) (c := 100) (i := p) rfl (show p < 4 from hp4), q1, hT.rR (k := 22) (b := 246) rfl rfl, hT.rR (k := 30) (b := 254) rfl rfl, hT.rx (a := 254) (c := 100) (i := p) rfl (show p < 4 from hp4), q1, hT.rx (a := 246) (c := 100) (i := j) rfl (show j < 4 from hj), p1, lit_1, nI_sub (by omega), Nat.add_sub_cancel, hT.wx (a := 246) (c := 100) (i := j) rfl (show j < 4 from hj), lit_4, nI_mul]
  exact e
end RUM

/-! THE CLASS'S METHODS: read, write, close, remove, stat -/
def kRL : List zM → zS → Nat → Nat → zS × Nat × Nat × (Nat ⊕ Option Int32)
  | [], S, a, q => (S, a, q, .inr none)
  | m :: ms, S, a, q => match oRD (S.1 m.1) m.2.1 q with
    | .inr (some b) => (kRD S m.1 m.2.1 q, a, q + 1, .inr (some b))
    | x => if ms = [] then (kRD S m.1 m.2.1 q, a, q, x) else kRL ms (kRD S m.1 m.2.1 q) (a + 1) 0
section RW
variable {z sl d : Nat} {M : Nat → Nat → Int32} {pm : Nat → Nat → Nat} {S : zS} {Q : Nat → Option Nat} {Y : zY} {X : zX} {W : zW} {h : ag_H} {s x : Nat} {F G : List (Nat × Nat)} {p f j : Nat}
theorem CA.m10g (hC : CA z sl M pm S Q Y X W h) (v : Int32) : ag_run gT (d + 1) 10 [.inr (some (5 + 9 * S.2.1)), .inl v] h = some (.inl (some (.inl (wb (msg S.2.2.2.2.1 S.2.2.2.2.2) v))), h) := by
  obtain ⟨kd, ln, I, R, ad, rfl, hB⟩ := hC
  obtain ⟨c, hm⟩ := hB.2.2.2.1.2.2.2.2.2
  have := hB.2.2.2.1.2.2.1
  exact s10 hB.1 (hB.kk (by omega) (kd0_s _ this).2.2) hm v
theorem by8_0 {n : Nat} (hn : n < 256) : by8 (nI n) 0 = nI n := by
  have key : ∀ n, n < 256 → by8 (nI n) 0 = nI n := by decide +kernel
  exact key n hn
theorem vby_b {V : zV} (hw : VW V) {i q : Nat} (hi : i < V.1) {b : Int32} (hb : vby V i q = some b) : ∃ n, n < 256 ∧ b = nI n := by
  unfold vby at hb
  cases hd : (V.2.1 i).2.1
  · rw [hd] at hb
    have hb : (if q < (V.2.1 i).2.2.2.2.1.length then some ((V.2.1 i).2.2.2.2.1.getD q 0) else none) = some b := hb
    split at hb
    · rename_i hq
      cases hb
      have h1 : (V.2.1 i).2.2.2.2.1.getD q 0 ∈ (V.2.1 i).2.2.2.2.1 := by
        rw [List.getD_eq_getElem?_getD, List.getElem?_eq_getElem hq]
        exact List.getElem_mem hq
      exact (hw.2.2.2.2.2.1 i hi).2.2.2 _ h1
    · cases hb
  · rw [hd] at hb
    have hb : (vls V i q).map (fun l => nI (97 + l)) = some b := hb
    unfold vls at hb
    cases hx : ((vlv V).filter fun i9 => decide ((V.2.1 i9).2.2.2.1 = some i))[q]? with
    | none => rw [hx] at hb; cases hb
    | some x =>
      rw [hx] at hb
      cases hb
      have hm := (List.mem_filter.mp (List.mem_of_getElem? hx)).1
      have := (hw.2.2.2.2.2.1 x (vlv_mem hm).1).1
      exact ⟨97 + (V.2.1 x).2.2.1, by omega, rfl⟩
theorem oRD_b {V : zV} (hw : VW V) {q : Nat} {b : Int32} (hb : oRD V x q = .inr (some b)) : ∃ n, n < 256 ∧ b = nI n := by
  unfold oRD at hb
  cases hs : V.2.2.1 x with
  | none => rw [hs] at hb; cases hb
  | some i =>
    rw [hs] at hb
    dsimp only at hb
    cases h1 : (V.2.1 i).1
    · rw [h1] at hb; cases hb
    · rw [h1] at hb
      have hb : (Sum.inr (vby V i q) : Nat ⊕ Option Int32) = Sum.inr (some b) := hb
      injection hb with hb
      exact vby_b hw (hw.2.2.2.1 x i hs) hb
theorem oRD_e {V : zV} {q e : Nat} (hb : oRD V x q = .inl e) : e = 110 := by
  unfold oRD at hb
  cases hs : V.2.2.1 x with
  | none => rw [hs] at hb; cases hb; rfl
  | some i =>
    rw [hs] at hb
    dsimp only at hb
    cases h1 : (V.2.1 i).1
    · rw [h1] at hb; cases hb; rfl
    · rw [h1] at hb; cases hb
theorem kRL_cons (m : zM) (ms : List zM) (S : zS) (a q : Nat) : kRL (m :: ms) S a q = match oRD (S.1 m.1) m.2.1 q with
    | .inr (some b) => (kRD S m.1 m.2.1 q, a, q + 1, .inr (some b))
    | x => if ms = [] then (kRD S m.1 m.2.1 q, a, q, x) else kRL ms (kRD S m.1 m.2.1 q) (a + 1) 0 := rfl
/-- what a read answers -/
def rdA (ev : Nat) (x : Nat ⊕ Option Int32) : ag_O := match x with
  | .inr (some b) => .inl (some (.inl b))
  | .inr none => .inl (some (.inl (-1)))
  | .inl _ => if ev = 1 then .inr 2 else .inl (some (.inl (-1)))
def rdT (ev : Nat) (x : Nat ⊕ Option Int32) : Nat := match x with
  | .inr _ => 0
  | .inl _ => if ev = 1 then 1 else 0
theorem c67_122 (hC : CA z sl M pm S Q Y X W h) (hp9 : p < 4) (hf : f < 5) (hev : (Y.2.1 p f).2.2.1 < 1000) {b : Option Nat → Option Nat → Int32 → Int32 → Int32 → ag_H → ag_R} {x : Nat ⊕ Option Int32} (hx : ∀ v, x ≠ .inr (some v)) (he : ∀ e, x = .inl e → e = 110) : ∃ h', f67_122 (ag_run gT (d + 4)) b (some (58 + 49 * p + 5 * f)) (eI x) h = some (rdA (Y.2.1 p f).2.2.1 x, h') ∧ CA (z + rdT (Y.2.1 p f).2.2.1 x) (sl + 6 * rdT (Y.2.1 p f).2.2.1 x) M pm S Q Y X W h' := by
  unfold f67_122 f67_145
  rw [lit_0, lit_1, lit_m]
  match x, hx, he with
  | .inr (some v), hx, _ => exact absurd rfl (hx v)
  | .inr none, _, _ => exact ⟨h, if_pos rfl, hC⟩
  | .inl e, _, he =>
    have := he e rfl
    subst this
    rw [if_neg (show ¬ eI (Sum.inl 110 : Nat ⊕ Option Int32) = nI 0 by decide), hC.u2 hp9 hf]
    unfold rdA rdT
    by_cases h1 : (Y.2.1 p f).2.2.1 = 1
    · rw [if_pos (by rw [h1]), if_pos h1, if_pos h1]
      exact ⟨_, rfl, hC.thr⟩
    · rw [if_neg (by rw [nI_eq (by omega) (by omega)]; exact h1), if_neg h1, if_neg h1]
      exact ⟨h, rfl, hC⟩
theorem c67_34 (hp9 : p < 4) (hf : f < 5) (hv : ∀ m ∈ (Y.2.1 p f).2.1, m.1 < 2 ∧ (m.1, m.2.1) ∈ F) (hl3 : (Y.2.1 p f).2.1.length ≤ 3) (hev : (Y.2.1 p f).2.2.1 < 1000) : ∀ (rest : List zM) (a q t n : Nat) (S : zS) (h : ag_H) (e : Int32), rest = (Y.2.1 p f).2.1.drop a → rest ≠ [] → t ≤ a → a < 3 → q ≤ 20 → OW S F → CA z sl M pm S Q (sU Y p f ((Y.2.1 p f).1, (Y.2.1 p f).2.1, (Y.2.1 p f).2.2.1, (Y.2.1 p f).2.2.2.1, a, q)) X W h →
    ∃ h', g67 (ag_run gT (d + 4)) (n + rest.length + 1) (some 0) (some (58 + 49 * p + 5 * f)) e (nI 1) (nI t) h = some (rdA (Y.2.1 p f).2.2.1 (kRL rest S a q).2.2.2, h') ∧ CA (z + rdT (Y.2.1 p f).2.2.1 (kRL rest S a q).2.2.2) (sl + 6 * rdT (Y.2.1 p f).2.2.1 (kRL rest S a q).2.2.2) M pm (kRL rest S a q).1 Q (sU Y p f ((Y.2.1 p f).1, (Y.2.1 p f).2.1, (Y.2.1 p f).2.2.1, (Y.2.1 p f).2.2.2.1, (kRL rest S a q).2.1, (kRL rest S a q).2.2.1)) X W h' := by
  intro rest
  induction rest with
  | nil => intro a q t n S h e _ h9; exact absurd rfl h9
  | cons m rest ih =>
    intro a q t n S h e hr _ ht ha hq hO hC
    have hal : a < (Y.2.1 p f).2.1.length := by
      rcases Nat.lt_or_ge a (Y.2.1 p f).2.1.length with h1 | h1
      · exact h1
      · rw [List.drop_eq_nil_of_le h1] at hr; cases hr
    have hdr := drop_gM hal
    rw [← hr] at hdr
    injection hdr with hm hrest
    have hmem : m ∈ (Y.2.1 p f).2.1 := by rw [hm]; exact gM_mem hal
    obtain ⟨v1, v2⟩ := hv m hmem
    have v3 := hO.lt v1 v2
    have hu : (sU Y p f ((Y.2.1 p f).1, (Y.2.1 p f).2.1, (Y.2.1 p f).2.2.1, (Y.2.1 p f).2.2.2.1, a, q)).2.1 p f = ((Y.2.1 p f).1, (Y.2.1 p f).2.1, (Y.2.1 p f).2.2.1, (Y.2.1 p f).2.2.2.1, a, q) := up2_eq _ _ _ _
    have ha9 : ((sU Y p f ((Y.2.1 p f).1, (Y.2.1 p f).2.1, (Y.2.1 p f).2.2.1, (Y.2.1 p f).2.2.2.1, a, q)).2.1 p f).2.2.2.2.1 < ((sU Y p f ((Y.2.1 p f).1, (Y.2.1 p f).2.1, (Y.2.1 p f).2.2.1, (Y.2.1 p f).2.2.2.1, a, q)).2.1 p f).2.1.length := by rw [hu]; exact hal
    have e1 := hC.u21 (d := d + 2) hp9 hf ha9
    rw [hu] at e1
    have e1 : ag_run gT (d + 4) 21 [.inr (some (58 + 49 * p + 5 * f))] h = some (.inl (some (.inl (nI m.1))), h) := by rw [hm]; exact e1
    obtain ⟨h2, t2, q2, t2', r2, e2, C2⟩ := hC.to (d := d + 3) v1
    have e3 := C2.u22 (d := d + 2) hp9 hf ha9
    rw [hu] at e3
    have e3 : ag_run gT (d + 4) 22 [.inr (some (58 + 49 * p + 5 * f))] h2 = some (.inl (some (.inl (nI m.2.1))), h2) := by rw [hm]; exact e3
    obtain ⟨h4, e4, C4⟩ := C2.c42 (d := d + 1) (s := m.1) rfl v3 (q := q) (by omega)
    have e4 : ag_run gT (d + 4) 42 [.inr (some (2 + 9 * m.1)), .inl (nI m.2.1), .inl (nI q)] h2 = some (.inl (some (.inl (eI (oRD (S.1 m.1) m.2.1 q)))), h4) := e4
    have C4 : CA z sl M pm (kRD S m.1 m.2.1 q) Q (sU Y p f ((Y.2.1 p f).1, (Y.2.1 p f).2.1, (Y.2.1 p f).2.2.1, (Y.2.1 p f).2.2.2.1, a, q)) X W h4 := C4
    have hO4 : OW (kRD S m.1 m.2.1 q) F := hO.rd v1 q
    have e5 := C4.m10g (d := d + 3) (nI 9)
    have hq5 := C2.u5 hp9 hf (K := fun x => (ag_at h2 (some (2 + 9 * m.1)) 7 fun a11 _ => ag_bI (ag_run gT (d + 4) 42 [.inr (some a11), .inl (nI m.2.1), .inl x] h2) fun x13 h12 => none))
    rw [show n + (m :: rest).length + 1 = (n + rest.length + 1) + 1 by simp; omega]
    have hu5 : ∀ K : Int32 → ag_R, ag_gI h2 (some (58 + 49 * p + 5 * f)) 3 5 K = K (nI q) := fun K => by
      have := C2.u5 hp9 hf (K := K)
      rw [hu] at this
      exact this
    have hu5' : ∀ K : Int32 → ag_R, ag_gI h4 (some (58 + 49 * p + 5 * f)) 3 5 K = K (nI q) := fun K => by
      have := C4.u5 hp9 hf (K := K)
      rw [hu] at this
      exact this
    -- when nothing was got
    have miss : ∀ x : Nat ⊕ Option Int32, x = oRD (S.1 m.1) m.2.1 q → (∀ v, x ≠ .inr (some v)) → ∃ h', (ag_at h4 (some (58 + 49 * p + 5 * f)) 3 fun a1 _ => ag_bI (ag_run gT (d + 4) 23 [.inr (some a1)] h4) fun x3 h2 => g67 (ag_run gT (d + 4)) (n + rest.length + 1) (some 0) (some (58 + 49 * p + 5 * f)) (eI x) x3 (nI (t + 1)) h2) = some (rdA (Y.2.1 p f).2.2.1 (kRL (m :: rest) S a q).2.2.2, h') ∧ CA (z + rdT (Y.2.1 p f).2.2.1 (kRL (m :: rest) S a q).2.2.2) (sl + 6 * rdT (Y.2.1 p f).2.2.1 (kRL (m :: rest) S a q).2.2.2) M pm (kRL (m :: rest) S a q).1 Q (sU Y p f ((Y.2.1 p f).1, (Y.2.1 p f).2.1, (Y.2.1 p f).2.2.1, (Y.2.1 p f).2.2.2.1, (kRL (m :: rest) S a q).2.1, (kRL (m :: rest) S a q).2.2.1)) X W h' := by
      intro x hx hxn
      have hk : kRL (m :: rest) S a q = if rest = [] then (kRD S m.1 m.2.1 q, a, q, x) else kRL rest (kRD S m.1 m.2.1 q) (a + 1) 0 := by
        rw [kRL_cons, ← hx]
        match x, hxn with
        | .inl _, _ => rfl
        | .inr none, _ => rfl
        | .inr (some v), hxn => exact absurd rfl (hxn v)
      rw [hk, C4.au hp9 hf]
      by_cases hr0 : rest = []
      · rw [if_pos hr0]
        have hend : ¬ a + 1 < (Y.2.1 p f).2.1.length := by
          intro h9
          rw [hr0] at hrest
          have := congrArg List.length hrest
          rw [List.length_drop] at this
          simp at this
          omega
        have e6 := C4.u23n (d := d + 3) hp9 hf (by rw [hu]; exact hend) (by rw [hu]; show a < 100; omega)
        obtain ⟨h7, e7, C7⟩ := c67_122 (d := d) (b := g67 (ag_run gT (d + 4)) (n + rest.length)) C4 hp9 hf (by rw [hu]; exact hev) (x := x) hxn (fun e9 he9 => oRD_e (by rw [← hx]; exact he9))
        rw [hu] at e7 C7
        refine ⟨h7, ?_, C7⟩
        rw [e6, b_I]
        show f67_34 _ _ _ _ _ _ _ _ = _
        unfold f67_34
        rw [lit_0, if_pos rfl]
        exact e7
      · rw [if_neg hr0]
        have hmore : a + 1 < (Y.2.1 p f).2.1.length := by
          rcases Nat.lt_or_ge (a + 1) (Y.2.1 p f).2.1.length with h1 | h1
          · exact h1
          · rw [List.drop_eq_nil_of_le h1] at hrest; exact absurd hrest hr0
        obtain ⟨h6, e6, C6⟩ := C4.u23y (d := d + 3) hp9 hf (by rw [hu]; exact hmore)
        rw [hu] at C6
        have e9 : sU (sU Y p f ((Y.2.1 p f).1, (Y.2.1 p f).2.1, (Y.2.1 p f).2.2.1, (Y.2.1 p f).2.2.2.1, a, q)) p f ((Y.2.1 p f).1, (Y.2.1 p f).2.1, (Y.2.1 p f).2.2.1, (Y.2.1 p f).2.2.2.1, a + 1, 0) = sU Y p f ((Y.2.1 p f).1, (Y.2.1 p f).2.1, (Y.2.1 p f).2.2.1, (Y.2.1 p f).2.2.2.1, a + 1, 0) := by
          show (Y.1, up2 (up2 Y.2.1 p f _) p f _, Y.2.2) = (Y.1, up2 Y.2.1 p f _, Y.2.2)
          rw [up2_up2]
        have C6' : CA z sl M pm (kRD S m.1 m.2.1 q) Q (sU Y p f ((Y.2.1 p f).1, (Y.2.1 p f).2.1, (Y.2.1 p f).2.2.1, (Y.2.1 p f).2.2.2.1, a + 1, 0)) X W h6 := by
          rw [← e9]; exact C6
        obtain ⟨h7, e7, C7⟩ := ih (a + 1) 0 (t + 1) n (kRD S m.1 m.2.1 q) h6 (eI x) hrest hr0 (by omega) (by omega) (by omega) hO4 C6'
        exact ⟨h7, by rw [e6, b_I]; exact e7, C7⟩
    show ∃ h', f67_34 _ _ _ _ _ _ _ _ = _ ∧ _
    unfold f67_34 f67_89
    rw [lit_0, if_neg (show ¬ nI 1 = nI 0 by decide), lit_3, if_neg (nI_ge (by omega) (by omega)), hC.au hp9 hf, e1, b_I, hC.a0, e2, b_R, C2.au hp9 hf, e3, b_I, hu5, C2.as v1, e4, b_I, lit_1, lit_m, nI_add]
    rcases ho : oRD (S.1 m.1) m.2.1 q with e9 | (_ | b)
    · have := oRD_e ho
      subst this
      rw [if_neg (show ¬ eI (Sum.inl 110 : Nat ⊕ Option Int32) = nI 0 by decide), if_pos rfl]
      exact miss _ ho.symm (fun v h => by cases h)
    · have hr9 : (kRD S m.1 m.2.1 q).2.2.2.2.2 = le (nI 0) 2 := by
        unfold kRD
        rw [ho]; rfl
      have e5' : ag_run gT (d + 4) 10 [.inr (some (5 + 9 * m.1)), .inl (nI 9)] h4 = some (.inl (some (.inl (-1))), h4) := by
        have := e5
        rw [hr9] at this
        refine this.trans ?_
        rfl
      rw [if_pos (show eI (Sum.inr none : Nat ⊕ Option Int32) = nI 0 from rfl), C4.q1 v1, C4.am v1, lit8_9, e5', b_I, if_pos rfl]
      exact miss _ ho.symm (fun v h => by cases h)
    · obtain ⟨nb, hnb, rfl⟩ := oRD_b (hO.1 m.1 v1) ho
      have hr9 : (kRD S m.1 m.2.1 q).2.2.2.2.2 = le (nI 1) 2 ++ le (nI nb) 1 := by
        unfold kRD
        rw [ho]; rfl
      have e5' : ag_run gT (d + 4) 10 [.inr (some (5 + 9 * m.1)), .inl (nI 9)] h4 = some (.inl (some (.inl (nI nb))), h4) := by
        have := C4.m10 (d := d + 3) (j := 2) (by rw [hr9]; show 2 < 3; decide)
        rw [hr9] at this
        refine this.trans ?_
        show some (Sum.inl (some (Sum.inl (by8 (nI nb) 0))), h4) = _
        rw [by8_0 hnb]
      have hk : kRL (m :: rest) S a q = (kRD S m.1 m.2.1 q, a, q + 1, .inr (some (nI nb))) := by
        rw [kRL_cons, ho]
      obtain ⟨h7, e7, C7⟩ := C4.v5 hp9 hf (q + 1)
      rw [hu] at C7
      have e9 : sU (sU Y p f ((Y.2.1 p f).1, (Y.2.1 p f).2.1, (Y.2.1 p f).2.2.1, (Y.2.1 p f).2.2.2.1, a, q)) p f ((Y.2.1 p f).1, (Y.2.1 p f).2.1, (Y.2.1 p f).2.2.1, (Y.2.1 p f).2.2.2.1, a, q + 1) = sU Y p f ((Y.2.1 p f).1, (Y.2.1 p f).2.1, (Y.2.1 p f).2.2.1, (Y.2.1 p f).2.2.2.1, a, q + 1) := by
        show (Y.1, up2 (up2 Y.2.1 p f _) p f _, Y.2.2) = (Y.1, up2 Y.2.1 p f _, Y.2.2)
        rw [up2_up2]
      rw [hk]
      refine ⟨h7, ?_, ?_⟩
      · rw [if_pos (show eI (Sum.inr (some (nI nb)) : Nat ⊕ Option Int32) = nI 0 from rfl), C4.q1 v1, C4.am v1, lit8_9, e5', b_I, if_neg (nI_m1 (by omega)), hu5', nI_add, e7]
        rfl
      · rw [← e9]; exact C7
end RW

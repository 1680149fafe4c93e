/-! ONE CALL: the class's, then the reference's -/
def Cm (n : Nat) (h : ag_H) : Prop := ∃ z sl pm S Q P O H X W M, CA z sl M pm S Q (P, O, H) X W h ∧ (∀ y, M 252 y = 0 ∨ M 252 y = 1) ∧ RR S P Q O (X.1, X.2.1) M ∧ IV n S P Q O X ∧ z ≤ 263 + 3 * n ∧ sl ≤ 10700 + 22 * n
def St (d n y y' : Nat) (A : List ag_V) (cl : List Nat) (h : ag_H) : Prop := ∃ o h1 b h2 t, (∃ fs, h1.2.2 230 = some (11, fs)) ∧ ag_run gT d y (.inr (some 0) :: A) h = some (o, h1) ∧ ag_run gT d y' (.inr (some 230) :: A) h1 = some (.inl (some (.inl b)), h2) ∧ ag_run gT d 113 [.inr (some 230)] h2 = some (.inl (some (.inl (nI t))), h2) ∧ Cm (n + 1) h2 ∧ ((o = .inl (some (.inl b)) ∧ t = 0) ∨ ∃ e, o = .inr e ∧ e < 4 ∧ t = cl.getD e 0 ∧ 0 < t)
def St0 (d n y y' : Nat) (A : List ag_V) (h : ag_H) : Prop := ∃ h1 b h2, (∃ fs, h1.2.2 230 = some (11, fs)) ∧ ag_run gT d y (.inr (some 0) :: A) h = some (.inl (some (.inl b)), h1) ∧ ag_run gT d y' (.inr (some 230) :: A) h1 = some (.inl (some (.inl b)), h2) ∧ Cm (n + 1) h2
section STP
variable {z sl d n y y' t : Nat} {M M' : Nat → Nat → Int32} {pm : Nat → Nat → Nat} {S : zS} {Q : Nat → Option Nat} {Y : zY} {P : Nat → List zP} {O O' : Nat → Nat → zU} {H : List zM} {X : zX} {W : zW} {h h1 h2 : ag_H} {A : List ag_V} {o : ag_O} {b : Int32} {cl : List Nat} {p f j : Nat}
theorem CA.k1 (hC : CA z sl M pm S Q Y X W h) : ∃ fs, h.2.2 0 = some (10, fs) := by
  obtain ⟨kd, ln, I, R, ad, rfl, hB⟩ := hC
  have hk : kd 0 = 10 := (hB.1.1 0 (by decide)).1
  refine ⟨(List.range (ln 0)).map (hv (kd 0) (I 0) (R 0)), ?_⟩
  show (if kd 0 = 999 then none else some (kd 0, _)) = _
  rw [hk, if_neg (by decide)]
theorem CA.k2 (hC : CA z sl M pm S Q Y X W h) : ∃ fs, h.2.2 230 = some (11, fs) := by
  obtain ⟨kd, ln, I, R, ad, rfl, hB⟩ := hC
  have hk : kd 230 = 11 := (hB.1.1 230 (by decide)).1.trans (by decide +kernel)
  refine ⟨(List.range (ln 230)).map (hv (kd 230) (I 230) (R 230)), ?_⟩
  show (if kd 230 = 999 then none else some (kd 230, _)) = _
  rw [hk, if_neg (by decide)]
theorem TA.of (C : CA z sl M pm S Q Y X W h) (hb : ∀ y, M 252 y = 0 ∨ M 252 y = 1) : TA (z, sl, pm, S, Q, Y, X, W) M h := ⟨C, hb⟩
theorem St.mk (k2 : ∃ fs, h1.2.2 230 = some (11, fs)) (e1 : ag_run gT (d + 7) y (.inr (some 0) :: A) h = some (o, h1)) (hr : ∃ h2 M', ag_run gT (d + 7) y' (.inr (some 230) :: A) h1 = some (.inl (some (.inl b)), h2) ∧ TA (z, sl, pm, S, Q, (P, O, H), X, W) M' h2 ∧ RR S P Q O (X.1, X.2.1) M' ∧ M' 230 41 = nI t) (hI : IV (n + 1) S P Q O X) (hz : z ≤ 263 + 3 * (n + 1)) (hs : sl ≤ 10700 + 22 * (n + 1)) (ho : (o = .inl (some (.inl b)) ∧ t = 0) ∨ ∃ e, o = .inr e ∧ e < 4 ∧ t = cl.getD e 0 ∧ 0 < t) : St (d + 7) n y y' A cl h := by
  obtain ⟨h2, M', e2, T, R, e3⟩ := hr
  refine ⟨o, h1, b, h2, t, k2, e1, e2, ?_, ⟨z, sl, pm, S, Q, P, O, H, X, W, M', T.1, T.2, R, hI, hz, hs⟩, ho⟩
  have := T.t113 (d := d + 6)
  rw [e3] at this
  exact this
theorem St.mk0 (k2 : ∃ fs, h1.2.2 230 = some (11, fs)) (e1 : ag_run gT (d + 7) y (.inr (some 0) :: A) h = some (.inl (some (.inl b)), h1)) (hr : ∃ h2 M', ag_run gT (d + 7) y' (.inr (some 230) :: A) h1 = some (.inl (some (.inl b)), h2) ∧ TA (z, sl, pm, S, Q, (P, O, H), X, W) M' h2 ∧ RR S P Q O (X.1, X.2.1) M') (hI : IV (n + 1) S P Q O X) (hz : z ≤ 263 + 3 * (n + 1)) (hs : sl ≤ 10700 + 22 * (n + 1)) : St0 (d + 7) n y y' A h := by
  obtain ⟨h2, M', e2, T, R⟩ := hr
  exact ⟨h1, b, h2, k2, e1, e2, ⟨z, sl, pm, S, Q, P, O, H, X, W, M', T.1, T.2, R, hI, hz, hs⟩⟩
theorem RR.tx {X' : List Nat × List Nat} {X0 : List Nat × List Nat} (hR : RR S P Q O X0 M) (hB : OB O) (hX : RX X' M') (hF : ∀ b j, b ≠ 231 → b ≠ 232 → ¬ (b = 230 ∧ (j = 0 ∨ j = 2 ∨ j = 41)) → M' b j = M b j) : RR S P Q O X' M' := by
  obtain ⟨a, b, c, e, f, g⟩ := hR
  exact ⟨a.rows fun b y h1 h2 => hF b y (by omega) (by omega) (by omega), b.congr (hF _ _ (by decide) (by decide) (by decide)) (hF _ _ (by decide) (by decide) (by decide)) (fun y => hF _ _ (by decide) (by decide) (by omega)) (fun y => hF _ _ (by decide) (by decide) (by omega)), c.congr fun b y h1 h2 => hF b y (by omega) (by omega) (by omega), e.congr (fun y => hF _ _ (by decide) (by decide) (by omega)) (fun y => hF _ _ (by decide) (by decide) (by omega)), f.congr hB fun b y h1 h2 => hF b y (by omega) (by omega) (by omega), hX⟩
theorem CA.ml (hC : CA z sl M pm S Q Y X W h) : S.2.2.2.1.length ≤ 13 ∧ S.2.2.2.2.2.length ≤ 13 := by
  obtain ⟨kd, ln, I, R, ad, rfl, hB⟩ := hC
  obtain ⟨-, -, -, -, ⟨c, k1⟩, c', k2⟩ := hB.2.2.2.1
  exact ⟨k1.2.2.2, k2.2.2.2⟩
theorem CA.p8 (hC : CA z sl M pm S Q Y X W h) {ns : List Nat} (hn : X.2.2.1 = some ns) : ∀ i, i < ns.length → ns.getD i 0 < 8 := fun i hi => by
  obtain ⟨kd, ln, I, R, ad, rfl, hB⟩ := hC
  exact ((hB.2.2.2.2.2.2.2.1.2.2.1.2 ns hn).2.2 i hi).1
theorem pth_2 {tx ns : List Nat} (hp9 : pth tx = some ns) (hn : 0 < ns.length) : 2 ≤ tx.length := by
  unfold pth at hp9
  match tx, hp9 with
  | [], h => cases h
  | [a], h =>
    rw [if_neg (by simp)] at h
    split at h
    · cases h; exact absurd hn (Nat.lt_irrefl _)
    · cases h
  | a :: b :: r, _ => simp
/-- TYPE -/
theorem st_type (hC : Cm n h) {c : Nat} (hc : c < 65536) : St (d + 7) n 63 135 [.inl (nI c)] [0, 1, 0, 0] h := by
  obtain ⟨z, sl, pm, S, Q, P, O, H, X, W, M, C, hb, R, I, hz, hs⟩ := hC
  by_cases hl : X.1.length < 24
  · obtain ⟨h1, e1, C1⟩ := C.c63 (d := d + 5) hl hc
    obtain ⟨h2, M', e2, T2, X2, e3, F⟩ := (TA.of C1 hb).t135 (d := d + 6) R.2.2.2.2.2 hl hc
    exact St.mk C1.k2 e1 ⟨h2, M', e2, T2, R.tx I.ob X2 (fun b j z1 z2 z3 => F b j z1 (by omega)), e3⟩ (I.xx (by show (X.1 ++ [c]).length + X.2.1.length ≤ _; rw [List.length_append, List.length_singleton]; omega)) (by omega) (by omega) (Or.inl ⟨rfl, rfl⟩)
  · have e1 := C.c63n (d := d + 5) hl (nI c)
    have C1 := C.thr
    obtain ⟨h2, e2, T2⟩ := (TA.of C1 hb).t135n (d := d + 6) R.2.2.2.2.2 hl (nI c)
    exact St.mk C1.k2 e1 ⟨h2, _, e2, T2, R.z I.ob (FZ.up (by decide)), up2_eq _ _ _ _⟩ I.up (by omega) (by omega) (Or.inr ⟨1, rfl, by decide, rfl, by decide⟩)
/-- KEEP -/
theorem st_keep (hC : Cm n h) : St0 (d + 7) n 64 136 [] h := by
  obtain ⟨z, sl, pm, S, Q, P, O, H, X, W, M, C, hb, R, I, hz, hs⟩ := hC
  obtain ⟨h1, e1, C1⟩ := C.c64 (d := d + 5)
  obtain ⟨h2, M', e2, T2, X2, F⟩ := (TA.of C1 hb).t136 (d := d + 6) R.2.2.2.2.2
  exact St.mk0 C1.k2 e1 ⟨h2, M', e2, T2, R.tx I.ob X2 (fun b j z1 z2 z3 => F b j z2 (by omega))⟩ (I.xx (by show ([] : List Nat).length + X.1.length ≤ _; simp; omega)) (by omega) (by omega)
/-- OPEN -/
theorem st_open (hC : Cm n h) (v w : Int32) : St (d + 7) n 65 151 [.inl v, .inl w] [1, 2, 3, 4] h := by
  obtain ⟨z, sl, pm, S, Q, P, O, H, X, W, M, C, hb, R, I, hz, hs⟩ := hC
  have B := I.ob
  rcases P_or Q v with ⟨p, j, hp9⟩ | hn9
  · have hj := C.q4 hp9.1 hp9.2.2
    cases hns : pth X.1 with
    | none =>
      obtain ⟨h1, e1, C1⟩ := C.c65a (d := d) (w := w) hp9 (Or.inl hns)
      exact St.mk C1.k2 e1 ((TA.of C1 hb).t151a R B hp9 (Or.inl hns)) (I.x0 _ _) (by omega) (by omega) (Or.inr ⟨0, rfl, by decide, rfl, by decide⟩)
    | some ns =>
      rcases M_or w with ⟨m, hm⟩ | hm
      · cases hf : lfr O p with
        | none =>
          obtain ⟨h1, e1, C1⟩ := C.c65b (d := d) hp9 hns hm hf
          exact St.mk C1.k2 e1 ((TA.of C1 hb).t151b R B hp9 hns hm hf) (I.x0 _ _) (by omega) (by omega) (Or.inr ⟨1, rfl, by decide, rfl, by decide⟩)
        | some f =>
          have h0 : (0, 0) ∈ owL P O := own_00
          have hl : (owL P O).length + 4 < 128 := by have := I.len; omega
          have hP := I.pm hj
          have hf5 : f < 5 ∧ (O p f).1 = false := by
            unfold lfr at hf
            exact ⟨List.mem_range.mp (List.mem_of_find?_eq_some hf), by simpa using List.find?_some hf⟩
          obtain ⟨k1, k2⟩ := C.c65 (d := d) hp9 hns hm hf h0 hl hP (fun q hq => ⟨((I.2.2.1 j hj).2 q hq).2.2.1, ((I.2.2.1 j hj).2 q hq).2.2.2.1⟩) I.1 I.wk
          have o3 := OW.stt (ns := ns) I.1 hl I.wk hj I.2.2.1.pm
          have hmf : isM w m := hm
          cases hr : (kWk P j ns S bgn).2 with
          | inl e =>
            obtain ⟨h1, H1, W1, e1, C1⟩ := k1 e hr
            have r1 := ((TA.of C1 hb).t151 (d := d) R B I.2.2.1.pb hp9 hns hm hf h0 hl hP I.1 I.wk).1 e hr
            obtain ⟨g1, g2, g3⟩ := o3.1 e hr
            refine St.mk C1.k2 e1 r1 (I.sf g1 g2 g3 (Nat.zero_le _)) (by omega) (by omega) (Or.inr ⟨thW e, rfl, ?_, ?_, ?_⟩)
            · unfold thW; split <;> decide
            · unfold thW; split <;> rfl
            · split <;> decide
          | inr w' =>
            rcases hT : kTk P j (kWk P j ns S bgn).1 w' with ⟨T, ms⟩
            rcases hR : kOpL m ms T 0 with ⟨R1, ms', e⟩
            obtain ⟨g1, g2, g3, g4, g5, g6⟩ := OW.opw (m := m) I.1 hl I.wk hj I.2.2.1.pm I.2.2.1.pb w' hr T ms R1 ms' e hT hR
            obtain ⟨k3, k4⟩ := k2 w' hr T ms R1 ms' e hT hR
            by_cases hms : ms' = []
            · obtain ⟨h1, H1, u, e1, C1⟩ := k3 hms
              obtain ⟨h2, M', e2, T2, R2, e3⟩ := (((TA.of C1 hb).t151 (d := d) R B I.2.2.1.pb hp9 hns hm hf h0 hl hP I.1 I.wk).2 w' hr T ms R1 ms' e hT hR).1 hms
              subst hms
              have I1 : IV (n + 1) R1 P Q O ([], [], pth X.1, pth X.2.1) := I.sf g1 g2 g3 (Nat.zero_le _)
              have hO2 : ∀ p' f', p' < 4 → f' < 5 → (up2 O p f (false, u) p' f').1 = (O p' f').1 ∧ ((O p' f').1 = true → up2 O p f (false, u) p' f' = O p' f') := fun p' f' _ _ => by
                by_cases ee : p' = p ∧ f' = f
                · obtain ⟨rfl, rfl⟩ := ee
                  rw [up2_eq, hf5.2]
                  exact ⟨rfl, fun h => (by cases h)⟩
                · rw [up2_ne ee]
                  exact ⟨rfl, fun _ => rfl⟩
              have I2 : IV (n + 1) R1 P Q (up2 O p f (false, u)) ([], [], pth X.1, pth X.2.1) := ⟨I1.1.cnt fun x => owL_un hp9.1 hf5.1 hf5.2 rfl, I1.2.1, I1.2.2.1, I1.2.2.2.1.up (fun h => by cases h), I1.2.2.2.2⟩
              refine St.mk C1.k2 e1 ⟨h2, M', e2, T2, R2.cong hO2, e3⟩ I2 (by omega) (by omega) (Or.inr ⟨thO e, rfl, ?_, ?_, ?_⟩)
              · unfold thO; split <;> decide
              · unfold thO; split <;> rfl
              · split <;> decide
            · obtain ⟨h1, H1, e1, C1⟩ := k4 hms
              have r1 := (((TA.of C1 hb).t151 (d := d) R B I.2.2.1.pb hp9 hns hm hf h0 hl hP I.1 I.wk).2 w' hr T ms R1 ms' e hT hR).2 hms g5
              have t1 : OW T (ms.map hp2 ++ owL P O) ∧ ∀ y ∈ ms, y.1 < 2 := by
                obtain ⟨-, o2⟩ := OW.wk h0 (by omega) hP ns S bgn I.1 I.wk
                obtain ⟨q1, q2, -⟩ := o2 w' hr
                have t1 := q1.tk h0 hl q2.1 hP (fun q hq => ((I.2.2.1 j hj).2 q hq).2.2.1)
                have t2 := (kTk_2 (S := (kWk P j ns S bgn).1) q2.1 (fun q hq => ⟨((I.2.2.1 j hj).2 q hq).2.2.1, ((I.2.2.1 j hj).2 q hq).2.2.2.2⟩)).1
                rw [hT] at t1 t2
                exact ⟨t1, t2⟩
              have hpl : m ≠ 0 → ∀ y ∈ ms', ∀ i, (R1.1 y.1).2.2.1 y.2.1 = some i → ((R1.1 y.1).2.1 i).2.1 = false := fun hm0 => by
                have := kOpL_pl hm0 ms T 0 _ t1.1 h0 t1.2
                rw [hR] at this
                exact this
              have I1 : IV (n + 1) R1 P Q (up2 O p f (true, ms', ms.length, m, 0, 0)) ([], [], pth X.1, pth X.2.1) := by
                refine ⟨g1.opd hp9.1 hf5.1 hf5.2 rfl rfl, by rw [g2 0 0 (by decide) own_00]; exact I.2.1, I.2.2.1, (I.2.2.2.1.keep I.1.1 (g2.sub bas_own) g3.fg).up fun _ => ?_, I.2.2.2.2.1, ?_⟩
                · refine ⟨List.length_pos_iff.mpr hms, g5, hm.1, Nat.zero_le _, g6, g4, fun hm0 => ⟨Nat.zero_le _, fun y hy i hi _ => hpl hm0 y hy i hi, fun _ _ _ => Nat.zero_le _⟩⟩
                · rw [g3.nx]
                  have := I.2.2.2.2.2
                  show 3 * nxs S + 0 + 0 ≤ _
                  omega
              exact St.mk C1.k2 e1 r1 I1 (by omega) (by omega) (Or.inl ⟨rfl, rfl⟩)
      · obtain ⟨h1, e1, C1⟩ := C.c65a (d := d) (w := w) hp9 (Or.inr hm)
        exact St.mk C1.k2 e1 ((TA.of C1 hb).t151a R B hp9 (Or.inr hm)) (I.x0 _ _) (by omega) (by omega) (Or.inr ⟨0, rfl, by decide, rfl, by decide⟩)
  · exact St.mk C.thr.k2 (C.c65n (d := d) hn9) ((TA.of C.thr hb).t151n R B hn9) I.up (by omega) (by omega) (Or.inr ⟨0, rfl, by decide, rfl, by decide⟩)
end STP

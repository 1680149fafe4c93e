/-! ONE CALL: create, read, write, close -/
section STQ
variable {z sl d n y y' t : Nat} {M M' : Nat → Nat → Int32} {pm : Nat → Nat → Nat} {S : zS} {Q : Nat → Option Nat} {Y : zY} {P : Nat → List zP} {O O' : Nat → Nat → zU} {H : List zM} {X : zX} {W : zW} {h h1 h2 : ag_H} {A : List ag_V} {o : ag_O} {b : Int32} {cl : List Nat} {p f j : Nat}
theorem lfr_ok {f : Nat} (hf : lfr O p = some f) : f < 5 ∧ (O p f).1 = false := by
  unfold lfr at hf
  exact ⟨List.mem_range.mp (List.mem_of_find?_eq_some hf), by simpa using List.find?_some hf⟩
theorem thW_ok (e : Nat) : thW e < 4 ∧ ([1, 2, 3, 4].getD (thW e) 0) = thW e + 1 ∧ ([1, 0, 2, 3].getD (thW e) 0) = (if e = 100 then 3 else 2) := by
  unfold thW
  split <;> decide
theorem kMf_e {T : zS} {w : zW} {c e : Nat} {dir : Bool} (hk : (kMf P j T w c dir).2 = .inl e) : e < 4 := by
  unfold kMf at hk
  cases hf : fmk (stM P j w) with
  | none => rw [hf] at hk; cases hk; decide
  | some k =>
    rw [hf] at hk
    dsimp only at hk
    unfold kMg at hk
    split at hk
    · cases hk
      unfold thM
      split
      · decide
      · split <;> decide
    · cases hk
/-- CREATE -/
theorem st_create (hC : Cm n h) (hn : n < 512) (v : Int32) (dir : Bool) : St (d + 7) n 66 153 [.inl v, .inl (bI dir)] [1, 2, 3, 4] h := by
  obtain ⟨z, sl, pm, S, Q, P, O, H, X, W, M, C, hb, R, I, hz, hs⟩ := hC
  have B := I.ob
  rcases P_or Q v with ⟨p, j, hp9⟩ | hn9
  · have hj := C.q4 hp9.1 hp9.2.2
    cases hns : pth X.1 with
    | none =>
      obtain ⟨h1, e1, C1⟩ := C.c66a (d := d) (w := bI dir) hp9 hns
      exact St.mk C1.k2 e1 ((TA.of C1 hb).t153a R B hp9 hns) (I.x0 _ _) (by omega) (by omega) (Or.inr ⟨0, rfl, by decide, rfl, by decide⟩)
    | some ns =>
      cases hf : lfr O p with
      | none =>
        obtain ⟨h1, e1, C1⟩ := C.c66b (d := d) (w := bI dir) hp9 hns hf
        exact St.mk C1.k2 e1 ((TA.of C1 hb).t153b R B hp9 hns hf) (I.x0 _ _) (by omega) (by omega) (Or.inr ⟨1, rfl, by decide, rfl, by decide⟩)
      | some f =>
        by_cases hnp : 0 < ns.length
        · have h0 : (0, 0) ∈ owL P O := own_00
          have hl : (owL P O).length + 4 < 128 := by have := I.len; omega
          have hP := I.pm hj
          have hf5 := lfr_ok hf
          have hx2 := pth_2 hns hnp
          have hcnt := I.2.2.2.2.2
          obtain ⟨k1, k2⟩ := C.c66 (d := d) hp9 hns hnp dir hf h0 hl hP I.1 I.wk (I.nx hn)
          have o3 := OW.stt (ns := ns.take (ns.length - 1)) I.1 hl I.wk hj I.2.2.1.pm
          obtain ⟨-, o2⟩ := OW.wk h0 (by omega) hP (ns.take (ns.length - 1)) S bgn I.1 I.wk
          have kpw := kp_wk h0 (by omega) hP (ns.take (ns.length - 1)) S bgn I.1 I.wk
          have sfw := SF.wk (P := P) (j := j) (ns.take (ns.length - 1)) S bgn
          cases hr : (kWk P j (ns.take (ns.length - 1)) S bgn).2 with
          | inl e =>
            obtain ⟨h1, H1, W1, e1, C1⟩ := k1 e hr
            have r1 := ((TA.of C1 hb).t153 (d := d) R B I.2.2.1.pb hp9 hns hnp dir hf h0 hl hP I.1 I.wk (I.nx hn)).1 e hr
            obtain ⟨g1, g2, g3⟩ := o3.1 e hr
            exact St.mk C1.k2 e1 r1 (I.sf g1 g2 g3 (Nat.zero_le _)) (by omega) (by omega) (Or.inr ⟨thW e, rfl, (thW_ok e).1, (thW_ok e).2.1.symm, Nat.succ_pos _⟩)
          | inr w' =>
            obtain ⟨q1, q2, -⟩ := o2 w' hr
            obtain ⟨T, hT⟩ : ∃ T, (kWk P j (ns.take (ns.length - 1)) S bgn).1 = T := ⟨_, rfl⟩
            rw [hT] at q1 q2 kpw sfw
            obtain ⟨k3, k4⟩ := k2 w' hr T hT
            have hc8 : ns.getD (ns.length - 1) 0 < 8 := by
              cases hk : (kMf P j T w' (ns.getD (ns.length - 1) 0) dir).2 with
              | inl e =>
                obtain ⟨h1, H1, z', sl', e1, z1, z2, s1, s2, C1⟩ := k3 e hk
                exact C1.p8 hns _ (by omega)
              | inr tn =>
                obtain ⟨h1, H1, z', sl', e1, z1, z2, s1, s2, C1⟩ := k4 tn.1 tn.2 hk
                exact C1.p8 hns _ (by omega)
            have hnT : ∀ t, t < 2 → (T.1 t).1 < 250 := fun t ht => by rw [(sfw t).1]; exact I.nx hn t ht
            obtain ⟨f1, f2, f3, f4, f5⟩ := OW.mkf (dir := dir) q1 hl q2 hj I.2.2.1.pm hc8 hnT
            rw [sfw.nx] at f5
            cases hk : (kMf P j T w' (ns.getD (ns.length - 1) 0) dir).2 with
            | inl e =>
              obtain ⟨h1, H1, z', sl', e1, z1, z2, s1, s2, C1⟩ := k3 e hk
              have r1 := (((TA.of C1 hb).t153 (d := d) R B I.2.2.1.pb hp9 hns hnp dir hf h0 hl hP I.1 I.wk (I.nx hn)).2 w' hr T hT).1 e hk
              have he4 : e < 4 ∧ [1, 2, 3, 4].getD e 0 = e + 1 := by
                have : e = 0 ∨ e = 1 ∨ e = 2 ∨ e = 3 := by
                  have := kMf_e hk
                  omega
                rcases this with rfl | rfl | rfl | rfl <;> decide
              have I1 : IV (n + 1) (kMf P j T w' (ns.getD (ns.length - 1) 0) dir).1 P Q O ([], [], pth X.1, pth X.2.1) := I.sv (f1 e hk) (kpw.trans f3) (sfw.fg.trans f4) (by show _ + 0 + 0 ≤ _; omega)
              exact St.mk C1.k2 e1 r1 I1 (by omega) (by omega) (Or.inr ⟨e, rfl, he4.1, he4.2.symm, Nat.succ_pos _⟩)
            | inr tn =>
              obtain ⟨t, y⟩ := tn
              obtain ⟨h1, H1, z', sl', e1, z1, z2, s1, s2, C1⟩ := k4 t y hk
              have r1 := (((TA.of C1 hb).t153 (d := d) R B I.2.2.1.pb hp9 hns hnp dir hf h0 hl hP I.1 I.wk (I.nx hn)).2 w' hr T hT).2 t y hk
              obtain ⟨g1, g2, g3⟩ := f2 t y hk
              have I1 : IV (n + 1) (kMf P j T w' (ns.getD (ns.length - 1) 0) dir).1 P Q (up2 O p f (true, [(t, y, false)], 1, dM2 dir, 0, 0)) ([], [], pth X.1, pth X.2.1) := by
                refine ⟨OW.opd (ms := [(t, y, false)]) g1 hp9.1 hf5.1 hf5.2 rfl rfl, by rw [f3 0 0 (by decide) own_00, kpw 0 0 (by decide) own_00]; exact I.2.1, I.2.2.1, (I.2.2.2.1.keep I.1.1 ((kpw.trans f3).sub bas_own) (sfw.fg.trans f4)).up fun _ => ?_, I.2.2.2.2.1, ?_⟩
                · refine ⟨Nat.zero_lt_one, (by show 1 ≤ 3; decide), (by show dM2 dir < 3; cases dir <;> decide), Nat.zero_le _, (by show 1 ≤ 3; decide), fun m hm => by rw [List.mem_singleton.mp hm]; exact g2, fun hd => ⟨Nat.zero_le _, fun m hm i hi _ => ?_, fun _ _ _ => Nat.zero_le _⟩⟩
                  rw [List.mem_singleton.mp hm] at hi ⊢
                  refine g3 ?_ i hi
                  cases dir with
                  | false => rfl
                  | true => exact absurd rfl hd
                · show 3 * _ + 0 + 0 ≤ _
                  omega
              exact St.mk C1.k2 e1 r1 I1 (by omega) (by omega) (Or.inl ⟨rfl, rfl⟩)
        · have hn0 : ns = [] := List.eq_nil_of_length_eq_zero (by omega)
          subst hn0
          obtain ⟨h1, e1, C1⟩ := C.c66c (d := d) (w := bI dir) hp9 hns hf
          exact St.mk C1.k2 e1 ((TA.of C1 hb).t153c R B hp9 hns hf) (I.x0 _ _) (by omega) (by omega) (Or.inr ⟨3, rfl, by decide, rfl, by decide⟩)
  · exact St.mk C.thr.k2 (C.c66n (d := d) hn9) ((TA.of C.thr hb).t153n R B hn9) I.up (by omega) (by omega) (Or.inr ⟨0, rfl, by decide, rfl, by decide⟩)
theorem row_own (I : IV n S P Q O X) (hp9 : p < 4) (hf : f < 5) (hu : (O p f).1 = true) : ∀ m ∈ (O p f).2.1, m.1 < 2 ∧ (m.1, m.2.1) ∈ owL P O := fun m hm => ⟨(I.2.2.2.1 p f hp9 hf hu).2.2.2.2.2.1 m hm, bas_own _ (row_bas hp9 hf hu hm)⟩
/-- READ -/
theorem st_read (hC : Cm n h) (v w : Int32) : St (d + 7) n 67 154 [.inl v, .inl w] [1, 0, 3, 2] h := by
  obtain ⟨z, sl, pm, S, Q, P, O, H, X, W, M, C, hb, R, I, hz, hs⟩ := hC
  have B := I.ob
  have nos : (noP Q v ∨ ∃ p j, isP Q v p j ∧ noF O p w) → St (d + 7) n 67 154 [.inl v, .inl w] [1, 0, 3, 2] h := fun hn9 =>
    St.mk C.thr.k2 (C.c67n (d := d) hn9) ((TA.of C.thr hb).t154n R B hn9) I.up (by omega) (by omega) (Or.inr ⟨0, rfl, by decide, rfl, by decide⟩)
  rcases P_or Q v with ⟨p, j, hp9⟩ | hn9
  · rcases F_or O p w with ⟨f, hf⟩ | hf
    · by_cases hm : (O p f).2.2.2.1 = 1
      · exact St.mk C.thr.k2 (C.c67m (d := d) hp9 hf hm) ((TA.of C.thr hb).t154m R B hp9 hf hm) I.up (by omega) (by omega) (Or.inr ⟨3, rfl, by decide, rfl, by decide⟩)
      · have hu := hf.2.2
        have hR := I.2.2.2.1 p f hp9.1 hf.1 hu
        have hv := row_own I hp9.1 hf.1 hu
        rcases hk : kRL ((O p f).2.1.drop (O p f).2.2.2.2.1) S (O p f).2.2.2.2.1 (O p f).2.2.2.2.2 with ⟨T, a', q', r⟩
        obtain ⟨h1, e1, C1⟩ := C.c67 (d := d) hp9 hf hm hR.2.2.1 hv (by have := hR.2.2.2.2.1; show (O p f).2.2.1 < 1000; omega) hR.1 hR.2.2.2.1 I.1 hk
        have r1 := (TA.of C1 hb).t154 (d := d) R B hp9 hf hm hR.2.2.1 hv hR.1 hR.2.2.2.1 I.1 hk
        obtain ⟨g1, g2, g3⟩ := OW.rl ((O p f).2.1.drop (O p f).2.2.2.2.1) S (O p f).2.2.2.2.1 (O p f).2.2.2.2.2 I.1 (fun m hm => (hv m (List.mem_of_mem_drop hm)).1)
        have g4 := RI.rl _ S (O p f).2.2.2.2.1 (O p f).2.2.2.2.2 rfl I.1.1 hR
        rw [hk] at g1 g2 g3 g4
        have I1 : IV (n + 1) T P Q (up2 O p f ((O p f).1, (O p f).2.1, (O p f).2.2.1, (O p f).2.2.2.1, a', q')) X := by
          refine ⟨g1.cnt fun x => ?_, by rw [g2 0 0 (by decide) own_00]; exact I.2.1, I.2.2.1, (I.2.2.2.1.keep I.1.1 (g2.sub bas_own) g3.fg).up fun _ => g4, I.2.2.2.2.1, by rw [g3.nx]; have := I.2.2.2.2.2; omega⟩
          have e1 := own_O (P := P) (O := O) (x := x) hp9.1 hf.1 ((O p f).1, (O p f).2.1, (O p f).2.2.1, (O p f).2.2.2.1, a', q')
          have e2 : rowh ((O p f).1, (O p f).2.1, (O p f).2.2.1, (O p f).2.2.2.1, a', q') = rowh (O p f) := rfl
          rw [e2] at e1
          omega
        have hrt : rdT (O p f).2.2.1 r ≤ 1 := by
          unfold rdT
          cases r with
          | inl e => dsimp only; split <;> omega
          | inr o => exact Nat.zero_le _
        refine St.mk C1.k2 e1 r1 I1 (by show z + rdT (O p f).2.2.1 r ≤ _; omega) (by show sl + 6 * rdT (O p f).2.2.1 r ≤ _; omega) ?_
        show (rdA (O p f).2.2.1 r = .inl (some (.inl (rdV (O p f).2.2.1 r))) ∧ rdC (O p f).2.2.1 r = 0) ∨ ∃ e, rdA (O p f).2.2.1 r = .inr e ∧ e < 4 ∧ rdC (O p f).2.2.1 r = [1, 0, 3, 2].getD e 0 ∧ 0 < rdC (O p f).2.2.1 r
        unfold rdV rdC rdA
        cases r with
        | inr o =>
          cases o with
          | none => exact Or.inl ⟨rfl, rfl⟩
          | some b => exact Or.inl ⟨rfl, rfl⟩
        | inl e =>
          dsimp only
          by_cases h9 : (O p f).2.2.1 = 1
          · rw [if_pos h9, if_pos h9]
            exact Or.inr ⟨2, rfl, by decide, rfl, by decide⟩
          · rw [if_neg h9, if_neg h9]
            exact Or.inl ⟨rfl, rfl⟩
    · exact nos (Or.inr ⟨p, j, hp9, hf⟩)
  · exact nos (Or.inl hn9)
/-- WRITE -/
theorem st_write (hC : Cm n h) (v w b : Int32) : St (d + 7) n 68 155 [.inl v, .inl w, .inl b] [1, 2, 3, 4] h := by
  obtain ⟨z, sl, pm, S, Q, P, O, H, X, W, M, C, hb, R, I, hz, hs⟩ := hC
  have B := I.ob
  rcases P_or Q v with ⟨p, j, hp9⟩ | hn9
  · rcases F_or O p w with ⟨f, hf⟩ | hf
    · rcases B_or b with ⟨c, hbb⟩ | hbb
      · by_cases hm : (O p f).2.2.2.1 = 0
        · exact St.mk C.thr.k2 (C.c68m (d := d) hp9 hf hbb hm) ((TA.of C.thr hb).t155m R B hp9 hf hbb hm) I.up (by omega) (by omega) (Or.inr ⟨3, rfl, by decide, rfl, by decide⟩)
        · have hu := hf.2.2
          have hR := I.2.2.2.1 p f hp9.1 hf.1 hu
          have hv := row_own I hp9.1 hf.1 hu
          obtain ⟨m, hmm⟩ : ∃ m, (O p f).2.1.getD (O p f).2.2.2.2.1 dM = m := ⟨_, rfl⟩
          obtain ⟨q, hqq⟩ : ∃ q, (O p f).2.2.2.2.2 = q := ⟨_, rfl⟩
          have hmem : m ∈ (O p f).2.1 := by rw [← hmm]; exact getD_memM hR.1
          obtain ⟨m1, m2⟩ := hv m hmem
          obtain ⟨R1, R2, R3⟩ := hR.2.2.2.2.2.2 hm
          have hq8 : q ≤ 8 := by rw [← hqq]; exact R1
          have hpl : ∀ i, (S.1 m.1).2.2.1 m.2.1 = some i → ((S.1 m.1).2.1 i).1 = true → ((S.1 m.1).2.1 i).2.1 = false ∧ q ≤ ((S.1 m.1).2.1 i).2.2.2.2.1.length := fun i hi ha => by
            have r3 := R3 i
            rw [hmm, hqq] at r3
            exact ⟨R2 m hmem i hi ha, r3 hi ha⟩
          obtain ⟨h1, e1, C1⟩ := C.c68 (d := d) hp9 hf hbb hm hR.2.2.1 hmm hR.1 ⟨m1, I.1.lt m1 m2⟩ hqq hq8 hpl
          have r1 := (TA.of C1 hb).t155 (d := d) R B hp9 hf hbb hm hR.2.2.1 hv hmm hR.1 hqq hq8 I.1 hpl
          obtain ⟨g1, g2, g3⟩ := I.1.wr m1 hbb.1 hpl
          have g4 : RI (kWR S m.1 m.2.1 q c) ((O p f).1, (O p f).2.1, (O p f).2.2.1, (O p f).2.2.2.1, (O p f).2.2.2.2.1, q + 1 - wrT (oWR (S.1 m.1) m.2.1 q)) := by
            refine RI.wr ?_ hmm hm I.1.1 g3
            rw [← hqq]; exact hR
          have I1 : IV (n + 1) (kWR S m.1 m.2.1 q c) P Q (up2 O p f ((O p f).1, (O p f).2.1, (O p f).2.2.1, (O p f).2.2.2.1, (O p f).2.2.2.2.1, q + 1 - wrT (oWR (S.1 m.1) m.2.1 q))) X := by
            refine ⟨g1.cnt fun x => ?_, by rw [g2 0 0 (by decide) own_00]; exact I.2.1, I.2.2.1, (I.2.2.2.1.keep I.1.1 (g2.sub bas_own) g3).up fun _ => g4, I.2.2.2.2.1, by rw [kWR_nx]; have := I.2.2.2.2.2; omega⟩
            have e1 := own_O (P := P) (O := O) (x := x) hp9.1 hf.1 ((O p f).1, (O p f).2.1, (O p f).2.2.1, (O p f).2.2.2.1, (O p f).2.2.2.2.1, q + 1 - wrT (oWR (S.1 m.1) m.2.1 q))
            have e2 : rowh ((O p f).1, (O p f).2.1, (O p f).2.2.1, (O p f).2.2.2.1, (O p f).2.2.2.2.1, q + 1 - wrT (oWR (S.1 m.1) m.2.1 q)) = rowh (O p f) := rfl
            rw [e2] at e1
            omega
          have hwt : wrT (oWR (S.1 m.1) m.2.1 q) ≤ 1 := by
            cases oWR (S.1 m.1) m.2.1 q with
            | inl e => exact Nat.le_refl _
            | inr i => exact Nat.zero_le _
          refine St.mk C1.k2 e1 r1 I1 (by omega) (by omega) ?_
          cases hr : oWR (S.1 m.1) m.2.1 q with
          | inr i => exact Or.inl ⟨rfl, rfl⟩
          | inl e =>
            by_cases h9 : e = 102
            · exact Or.inr ⟨1, if_pos h9, by decide, if_pos h9, by show 0 < (if e = 102 then 2 else 3); rw [if_pos h9]; decide⟩
            · exact Or.inr ⟨2, if_neg h9, by decide, if_neg h9, by show 0 < (if e = 102 then 2 else 3); rw [if_neg h9]; decide⟩
      · exact St.mk C.thr.k2 (C.c68b (d := d) hp9 hf hbb) ((TA.of C.thr hb).t155n R B (Or.inr (Or.inr ⟨p, j, f, hp9, hf, hbb⟩))) I.up (by omega) (by omega) (Or.inr ⟨0, rfl, by decide, rfl, by decide⟩)
    · exact St.mk C.thr.k2 (C.c68n (d := d) (Or.inr ⟨p, j, hp9, hf⟩)) ((TA.of C.thr hb).t155n R B (Or.inr (Or.inl ⟨p, j, hp9, hf⟩))) I.up (by omega) (by omega) (Or.inr ⟨0, rfl, by decide, rfl, by decide⟩)
  · exact St.mk C.thr.k2 (C.c68n (d := d) (Or.inl hn9)) ((TA.of C.thr hb).t155n R B (Or.inl hn9)) I.up (by omega) (by omega) (Or.inr ⟨0, rfl, by decide, rfl, by decide⟩)
/-- CLOSE -/
theorem st_close (hC : Cm n h) (v w : Int32) : St (d + 7) n 69 157 [.inl v, .inl w] [1, 0, 0, 0] h := by
  obtain ⟨z, sl, pm, S, Q, P, O, H, X, W, M, C, hb, R, I, hz, hs⟩ := hC
  have B := I.ob
  have nos : (noP Q v ∨ ∃ p j, isP Q v p j ∧ noF O p w) → St (d + 7) n 69 157 [.inl v, .inl w] [1, 0, 0, 0] h := fun hn9 =>
    St.mk C.thr.k2 (C.c69n (d := d) hn9) ((TA.of C.thr hb).t157n R B hn9) I.up (by omega) (by omega) (Or.inr ⟨0, rfl, by decide, rfl, by decide⟩)
  rcases P_or Q v with ⟨p, j, hp9⟩ | hn9
  · rcases F_or O p w with ⟨f, hf⟩ | hf
    · have hu := hf.2.2
      have hv := row_own I hp9.1 hf.1 hu
      obtain ⟨h1, e1, C1⟩ := C.c69 (d := d) hp9 hf (fun m hm => ⟨(hv m hm).1, I.1.lt (hv m hm).1 (hv m hm).2⟩)
      have e : ∀ x, ((O p f).2.1.map hp2 ++ owL P (up2 O p f (false, (O p f).2))).count x = (owL P O).count x := fun x => by
        have e1 := own_O (P := P) (O := O) (x := x) hp9.1 hf.1 (false, (O p f).2)
        have e2 : rowh (O p f) = (O p f).2.1.map hp2 := by unfold rowh; rw [hu]; rfl
        have e3 : rowh (false, (O p f).2) = [] := rfl
        rw [e2, e3, List.count_nil] at e1
        rw [List.count_append]
        omega
      have r1 := (TA.of C1 hb).t157 (d := d) R B hp9 hf (I.1.cnt e) own_00 (fun m hm => (hv m hm).1)
      obtain ⟨g1, g2, g3⟩ := OW.clo I.1 hp9.1 hf.1 hu (fun m hm => (hv m hm).1) (O p f).2
      have I1 : IV (n + 1) (kClA S (O p f).2.1) P Q (up2 O p f (false, (O p f).2)) X := by
        refine ⟨g1, by rw [g2 0 0 (by decide) own_00]; exact I.2.1, I.2.2.1, RWs.keep (S := S) (I.2.2.2.1.up fun h => by cases h) I.1.1 (g2.sub bas_own) g3.fg, I.2.2.2.2.1, by rw [g3.nx]; have := I.2.2.2.2.2; omega⟩
      exact St.mk C1.k2 e1 r1 I1 (by omega) (by omega) (Or.inl ⟨rfl, rfl⟩)
    · exact nos (Or.inr ⟨p, j, hp9, hf⟩)
  · exact nos (Or.inl hn9)
end STQ

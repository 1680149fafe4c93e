/-! ONE CALL: remove, stat, bind, mount, unmount, fork, exit, wire, server, process -/
section STR
variable {z sl d n y y' t : Nat} {M M' : Nat → Nat → Int32} {pm : Nat → Nat → Nat} {S : zS} {Q : Nat → Option Nat} {Y : zY} {P : Nat → List zP} {O O' : Nat → Nat → zU} {H : List zM} {X : zX} {W : zW} {h h1 h2 : ag_H} {A : List ag_V} {o : ag_O} {b : Int32} {cl : List Nat} {p f j : Nat}
/-- REMOVE -/
theorem st_remove (hC : Cm n h) (v : Int32) : St (d + 7) n 70 158 [.inl v] [1, 0, 2, 3] h := by
  obtain ⟨z, sl, pm, S, Q, P, O, H, X, W, M, C, hb, R, I, hz, hs⟩ := hC
  have B := I.ob
  rcases P_or Q v with ⟨p, j, hp9⟩ | hn9
  · have hj := C.q4 hp9.1 hp9.2.2
    cases hns : pth X.1 with
    | none =>
      obtain ⟨h1, e1, C1⟩ := C.c70a (d := d) hp9 hns
      exact St.mk C1.k2 e1 ((TA.of C1 hb).t158a R B hp9 hns) (I.x0 _ _) (by omega) (by omega) (Or.inr ⟨0, rfl, by decide, rfl, by decide⟩)
    | some ns =>
      by_cases hnp : 0 < ns.length
      · have h0 : (0, 0) ∈ owL P O := own_00
        have hl : (owL P O).length + 4 < 128 := by have := I.len; omega
        have hP := I.pm hj
        obtain ⟨k1, k2⟩ := C.c70 (d := d) hp9 hns hnp h0 hl hP I.1 I.wk
        have o3 := OW.stt (ns := ns) I.1 hl I.wk hj I.2.2.1.pm
        obtain ⟨-, o2⟩ := OW.wk h0 (by omega) hP ns S bgn I.1 I.wk
        have kpw := kp_wk h0 (by omega) hP ns S bgn I.1 I.wk
        have sfw := SF.wk (P := P) (j := j) ns S bgn
        cases hr : (kWk P j ns S bgn).2 with
        | inl e =>
          obtain ⟨h1, H1, W1, e1, C1⟩ := k1 e hr
          have r1 := ((TA.of C1 hb).t158 (d := d) R B I.2.2.1.pb hp9 hns hnp h0 hl hP I.1 I.wk).1 e hr
          obtain ⟨g1, g2, g3⟩ := o3.1 e hr
          exact St.mk C1.k2 e1 r1 (I.sf g1 g2 g3 (Nat.zero_le _)) (by omega) (by omega) (Or.inr ⟨thW e, rfl, (thW_ok e).1, (thW_ok e).2.2.symm, by split <;> decide⟩)
        | inr w' =>
          obtain ⟨q1, q2, q3⟩ := o2 w' hr
          obtain ⟨T, hT⟩ : ∃ T, (kWk P j ns S bgn).1 = T := ⟨_, rfl⟩
          rw [hT] at q1 q2 kpw sfw
          obtain ⟨h1, H1, e1, C1⟩ := k2 w' hr T hT
          have r1 := ((TA.of C1 hb).t158 (d := d) R B I.2.2.1.pb hp9 hns hnp h0 hl hP I.1 I.wk).2 w' hr T hT
          have hne := q3 (List.length_pos_iff.mp hnp)
          have hfl : fl w' = [(w'.1, w'.2.1)] := if_neg hne
          rw [hfl] at q1
          obtain ⟨g1, g2, g3⟩ := OW.rm (G := owL P O) q1 q2.1
          have hwt : wrT (oRM (T.1 w'.1) w'.2.1) ≤ 1 := by
            cases oRM (T.1 w'.1) w'.2.1 with
            | inl e => exact Nat.le_refl _
            | inr i => exact Nat.zero_le _
          have hcnt := I.2.2.2.2.2
          have I1 : IV (n + 1) (kRM T w'.1 w'.2.1) P Q O ([], [], pth X.1, pth X.2.1) := I.sv g1 (kpw.trans g2) (sfw.fg.trans g3) (by rw [kRM_nx, sfw.nx]; show _ + 0 + 0 ≤ _; omega)
          refine St.mk C1.k2 e1 r1 I1 (by omega) (by omega) ?_
          cases hx : oRM (T.1 w'.1) w'.2.1 with
          | inr i => exact Or.inl ⟨rfl, rfl⟩
          | inl e => exact Or.inr ⟨3, rfl, by decide, rfl, Nat.succ_pos 2⟩
      · have hn0 : ns = [] := List.eq_nil_of_length_eq_zero (by omega)
        subst hn0
        obtain ⟨h1, e1, C1⟩ := C.c70c (d := d) hp9 hns
        exact St.mk C1.k2 e1 ((TA.of C1 hb).t158c R B hp9 hns) (I.x0 _ _) (by omega) (by omega) (Or.inr ⟨3, rfl, by decide, rfl, by decide⟩)
  · exact St.mk C.thr.k2 (C.c70n (d := d) hn9) ((TA.of C.thr hb).t158n R B hn9) I.up (by omega) (by omega) (Or.inr ⟨0, rfl, by decide, rfl, by decide⟩)
/-- STAT -/
theorem st_stat (hC : Cm n h) (v : Int32) : St (d + 7) n 71 159 [.inl v] [1, 0, 2, 3] h := by
  obtain ⟨z, sl, pm, S, Q, P, O, H, X, W, M, C, hb, R, I, hz, hs⟩ := hC
  have B := I.ob
  rcases P_or Q v with ⟨p, j, hp9⟩ | hn9
  · have hj := C.q4 hp9.1 hp9.2.2
    cases hns : pth X.1 with
    | none =>
      obtain ⟨h1, e1, C1⟩ := C.c71a (d := d) hp9 hns
      exact St.mk C1.k2 e1 ((TA.of C1 hb).t159a R B hp9 hns) (I.x0 _ _) (by omega) (by omega) (Or.inr ⟨0, rfl, by decide, rfl, by decide⟩)
    | some ns =>
      have h0 : (0, 0) ∈ owL P O := own_00
      have hl : (owL P O).length + 4 < 128 := by have := I.len; omega
      have hP := I.pm hj
      obtain ⟨k1, k2⟩ := C.c71 (d := d) hp9 hns h0 hl hP I.1 I.wk
      have o3 := OW.stt (ns := ns) I.1 hl I.wk hj I.2.2.1.pm
      cases hr : (kWk P j ns S bgn).2 with
      | inl e =>
        obtain ⟨h1, H1, W1, e1, C1⟩ := k1 e hr
        have r1 := ((TA.of C1 hb).t159 (d := d) R B I.2.2.1.pb hp9 hns h0 hl hP I.1 I.wk).1 e hr
        obtain ⟨g1, g2, g3⟩ := o3.1 e hr
        exact St.mk C1.k2 e1 r1 (I.sf g1 g2 g3 (Nat.zero_le _)) (by omega) (by omega) (Or.inr ⟨thW e, rfl, (thW_ok e).1, (thW_ok e).2.2.symm, by split <;> decide⟩)
      | inr w' =>
        obtain ⟨h1, H1, e1, C1⟩ := k2 w' hr _ rfl
        have r1 := ((TA.of C1 hb).t159 (d := d) R B I.2.2.1.pb hp9 hns h0 hl hP I.1 I.wk).2 w' hr _ rfl
        obtain ⟨g1, g2, g3⟩ := o3.2 w' hr
        exact St.mk C1.k2 e1 r1 (I.sf g1 g2 g3 (Nat.zero_le _)) (by omega) (by omega) (Or.inl ⟨rfl, rfl⟩)
  · exact St.mk C.thr.k2 (C.c71n (d := d) hn9) ((TA.of C.thr hb).t159n R B hn9) I.up (by omega) (by omega) (Or.inr ⟨0, rfl, by decide, rfl, by decide⟩)
theorem kJ2_e {m : zM} {k e : Nat} (hk : (kJ2 P j S W k m).2.2 = .inl e) : e = 1 ∨ e = 3 := by
  unfold kJ2 at hk
  have key : ∀ c : Bool, (if c = true then 1 else 3) = 1 ∨ (if c = true then 1 else 3) = 3 := by decide
  cases hpi : pidx (P j) W.1 W.2.2.1 with
  | none =>
    rw [hpi] at hk
    dsimp only at hk
    split at hk
    · cases hk; exact key _
    · split at hk <;> cases hk
  | some k' =>
    rw [hpi] at hk
    dsimp only at hk
    split at hk
    · cases hk; exact key _
    · split at hk <;> cases hk
theorem kJn_e {m : zM} {k e : Nat} {ns : List Nat} (hk : (kJn P j S ns k m).2.2 = .inl e) : e < 4 ∧ [1, 2, 3, 4].getD e 0 = e + 1 := by
  unfold kJn at hk
  rcases hx : kWk P j ns S bgn with ⟨T, r⟩
  rw [hx] at hk
  cases r with
  | inl e' => cases hk; exact ⟨(thW_ok e').1, (thW_ok e').2.1⟩
  | inr W =>
    rcases kJ2_e hk with rfl | rfl <;> decide
theorem kBd_e {k e : Nat} {ns nk : List Nat} (hk : (kBd P j S ns nk k).2.2 = .inl e) : e < 4 ∧ [1, 2, 3, 4].getD e 0 = e + 1 := by
  unfold kBd at hk
  rcases hx : kWk P j nk S bgn with ⟨T, r⟩
  rw [hx] at hk
  cases r with
  | inl e' => cases hk; exact ⟨(thW_ok e').1, (thW_ok e').2.1⟩
  | inr W =>
    dsimp only at hk
    split at hk
    · cases hk; decide
    · exact kJn_e hk
/-- BIND -/
theorem st_bind (hC : Cm n h) (v w : Int32) : St (d + 7) n 72 164 [.inl v, .inl w] [1, 2, 3, 4] h := by
  obtain ⟨z, sl, pm, S, Q, P, O, H, X, W, M, C, hb, R, I, hz, hs⟩ := hC
  have B := I.ob
  rcases P_or Q v with ⟨p, j, hp9⟩ | hn9
  · have hj := C.q4 hp9.1 hp9.2.2
    have bad : (pth X.1 = none ∨ pth X.2.1 = none ∨ noH w) → St (d + 7) n 72 164 [.inl v, .inl w] [1, 2, 3, 4] h := fun ha => by
      obtain ⟨h1, e1, C1⟩ := C.c72a (d := d) hp9 ha
      exact St.mk C1.k2 e1 ((TA.of C1 hb).t164a R B hp9 ha) (I.x0 _ _) (by omega) (by omega) (Or.inr ⟨0, rfl, by decide, rfl, by decide⟩)
    cases hns : pth X.1 with
    | none => exact bad (Or.inl hns)
    | some ns =>
      cases hnk : pth X.2.1 with
      | none => exact bad (Or.inr (Or.inl hnk))
      | some nk =>
        rcases H_or w with ⟨k, hh⟩ | hh
        · have h0 : (0, 0) ∈ owL P O := own_00
          have hl : (owL P O).length + 4 < 128 := by have := I.len; omega
          have hP := I.pm hj
          have hN := own_PN I.1 hj
          obtain ⟨k1, k2⟩ := C.c72 (d := d) hp9 hns hnk hh h0 hl hP I.1 I.wk
          obtain ⟨g1, g2, g3⟩ := OW.bd (ns := ns) (nk := nk) (k := k) I.1 hl I.wk hj I.2.2.1.pm
          have I1 := I.pj hp9.1 hp9.2.2 g1 (kBd_ok I.1 hl I.wk hj I.2.2.1) g2 g3 (pth X.1) (pth X.2.1)
          cases hr : (kBd P j S ns nk k).2.2 with
          | inl e =>
            obtain ⟨h1, H1, W1, e1, C1⟩ := k1 e hr
            have r1 := ((TA.of C1 hb).t164 (d := d) R B I.2.2.1.pb hp9 hns hnk hh hN h0 hl hP I.1 I.wk).1 e hr
            exact St.mk C1.k2 e1 r1 I1 (by omega) (by omega) (Or.inr ⟨e, rfl, (kBd_e hr).1, (kBd_e hr).2.symm, Nat.succ_pos _⟩)
          | inr c =>
            obtain ⟨h1, H1, W1, e1, C1⟩ := k2 c hr
            have r1 := ((TA.of C1 hb).t164 (d := d) R B I.2.2.1.pb hp9 hns hnk hh hN h0 hl hP I.1 I.wk).2 c hr
            exact St.mk C1.k2 e1 r1 I1 (by omega) (by omega) (Or.inl ⟨rfl, rfl⟩)
        · exact bad (Or.inr (Or.inr hh))
  · exact St.mk C.thr.k2 (C.c72n (d := d) hn9) ((TA.of C.thr hb).t164n R B hn9) I.up (by omega) (by omega) (Or.inr ⟨0, rfl, by decide, rfl, by decide⟩)
/-- MOUNT -/
theorem st_mount (hC : Cm n h) (v u w : Int32) : St (d + 7) n 73 165 [.inl v, .inl u, .inl w] [1, 2, 3, 4] h := by
  obtain ⟨z, sl, pm, S, Q, P, O, H, X, W, M, C, hb, R, I, hz, hs⟩ := hC
  have B := I.ob
  rcases P_or Q v with ⟨p, j, hp9⟩ | hn9
  · have hj := C.q4 hp9.1 hp9.2.2
    have bad : (pth X.1 = none ∨ noS u ∨ noH w) → St (d + 7) n 73 165 [.inl v, .inl u, .inl w] [1, 2, 3, 4] h := fun ha => by
      obtain ⟨h1, e1, C1⟩ := C.c73a (d := d) hp9 ha
      exact St.mk C1.k2 e1 ((TA.of C1 hb).t165a R B hp9 ha) (I.x0 _ _) (by omega) (by omega) (Or.inr ⟨0, rfl, by decide, rfl, by decide⟩)
    cases hns : pth X.1 with
    | none => exact bad (Or.inl hns)
    | some ns =>
      rcases S_or u with ⟨s, hsu⟩ | hsu
      · rcases H_or w with ⟨k, hh⟩ | hh
        · have h0 : (0, 0) ∈ owL P O := own_00
          have hl : (owL P O).length + 4 < 128 := by have := I.len; omega
          have hP := I.pm hj
          have hN := own_PN I.1 hj
          obtain ⟨k1, k2⟩ := C.c73 (d := d) hp9 hns hsu hh h0 hl hP I.1 I.wk
          obtain ⟨g1, g2, g3⟩ := OW.mt (ns := ns) (k := k) I.1 hl I.wk hj hsu.1 I.2.2.1.pm
          have I1 := I.pj hp9.1 hp9.2.2 g1 (kMt_ok I.1 hl I.wk hj hsu.1 I.2.2.1) g2 g3 (pth X.1) (pth X.2.1)
          cases hr : (kMt P j S ns s k).2.2 with
          | inl e =>
            obtain ⟨h1, H1, W1, e1, C1⟩ := k1 e hr
            have r1 := ((TA.of C1 hb).t165 (d := d) R B I.2.2.1.pb hp9 hns hsu hh hN h0 hl hP I.1 I.wk).1 e hr
            have he := kJn_e hr
            exact St.mk C1.k2 e1 r1 I1 (by omega) (by omega) (Or.inr ⟨e, rfl, he.1, he.2.symm, Nat.succ_pos _⟩)
          | inr c =>
            obtain ⟨h1, H1, W1, e1, C1⟩ := k2 c hr
            have r1 := ((TA.of C1 hb).t165 (d := d) R B I.2.2.1.pb hp9 hns hsu hh hN h0 hl hP I.1 I.wk).2 c hr
            exact St.mk C1.k2 e1 r1 I1 (by omega) (by omega) (Or.inl ⟨rfl, rfl⟩)
        · exact bad (Or.inr (Or.inr hh))
      · exact bad (Or.inr (Or.inl hsu))
  · exact St.mk C.thr.k2 (C.c73n (d := d) hn9) ((TA.of C.thr hb).t165n R B hn9) I.up (by omega) (by omega) (Or.inr ⟨0, rfl, by decide, rfl, by decide⟩)
theorem kUm_e {e : Nat} {ns : List Nat} (hk : (kUm P j S ns).2.2 = .inl e) : e < 4 ∧ e = [1, 0, 2, 3].getD e 0 ∧ 0 < e := by
  have key : ∀ e, thW e < 4 ∧ thW e = [1, 0, 2, 3].getD (thW e) 0 ∧ 0 < thW e := fun e => by
    unfold thW
    split <;> decide
  unfold kUm at hk
  rcases hx : kWk P j ns S bgn with ⟨T, r⟩
  rw [hx] at hk
  cases r with
  | inl e' => cases hk; exact key e'
  | inr W =>
    dsimp only at hk
    cases hpi : pidx (P j) W.1 W.2.2.1 with
    | none => rw [hpi] at hk; cases hk; decide
    | some k' => rw [hpi] at hk; cases hk
/-- UNMOUNT -/
theorem st_unmount (hC : Cm n h) (v : Int32) : St (d + 7) n 74 167 [.inl v] [1, 0, 2, 3] h := by
  obtain ⟨z, sl, pm, S, Q, P, O, H, X, W, M, C, hb, R, I, hz, hs⟩ := hC
  have B := I.ob
  rcases P_or Q v with ⟨p, j, hp9⟩ | hn9
  · have hj := C.q4 hp9.1 hp9.2.2
    cases hns : pth X.1 with
    | none =>
      obtain ⟨h1, e1, C1⟩ := C.c74a (d := d) hp9 hns
      exact St.mk C1.k2 e1 ((TA.of C1 hb).t167a R B hp9 hns) (I.x0 _ _) (by omega) (by omega) (Or.inr ⟨0, rfl, by decide, rfl, by decide⟩)
    | some ns =>
      have h0 : (0, 0) ∈ owL P O := own_00
      have hl : (owL P O).length + 4 < 128 := by have := I.len; omega
      have hP := I.pm hj
      have hN := own_PN I.1 hj
      obtain ⟨k1, k2⟩ := C.c74 (d := d) hp9 hns h0 hl hP I.1 I.wk
      obtain ⟨g1, g2, g3⟩ := OW.um (ns := ns) I.1 hl I.wk hj I.2.2.1.pm
      have I1 := I.pj hp9.1 hp9.2.2 g1 (kUm_ok hj I.2.2.1) g2 g3 (pth X.1) (pth X.2.1)
      cases hr : (kUm P j S ns).2.2 with
      | inl e =>
        obtain ⟨h1, H1, W1, e1, C1⟩ := k1 e hr
        have r1 := ((TA.of C1 hb).t167 (d := d) R B I.2.2.1.pb hp9 hns hN h0 hl hP I.1 I.wk).1 e hr
        have he := kUm_e hr
        exact St.mk C1.k2 e1 r1 I1 (by omega) (by omega) (Or.inr ⟨e, rfl, he.1, he.2.1, he.2.2⟩)
      | inr c =>
        obtain ⟨h1, H1, W1, pm', e1, C1⟩ := k2 c hr
        have r1 := ((TA.of C1 hb).t167 (d := d) R B I.2.2.1.pb hp9 hns hN h0 hl hP I.1 I.wk).2 c hr
        exact St.mk C1.k2 e1 r1 I1 (by omega) (by omega) (Or.inl ⟨rfl, rfl⟩)
  · exact St.mk C.thr.k2 (C.c74n (d := d) hn9) ((TA.of C.thr hb).t167n R B hn9) I.up (by omega) (by omega) (Or.inr ⟨0, rfl, by decide, rfl, by decide⟩)
/-- FORK -/
theorem st_fork (hC : Cm n h) (v : Int32) (sh : Bool) : St (d + 7) n 75 170 [.inl v, .inl (bI sh)] [1, 2, 0, 0] h := by
  obtain ⟨z, sl, pm, S, Q, P, O, H, X, W, M, C, hb, R, I, hz, hs⟩ := hC
  have B := I.ob
  rcases P_or Q v with ⟨p, j, hp9⟩ | hn9
  · have hj := C.q4 hp9.1 hp9.2.2
    cases hlb : lab Q with
    | none => exact St.mk C.thr.k2 (C.c75f (d := d) sh hp9 hlb) ((TA.of C.thr hb).t170f R B hp9 hlb) I.up (by omega) (by omega) (Or.inr ⟨1, rfl, by decide, rfl, by decide⟩)
    | some q =>
      obtain ⟨i, hi⟩ := lus_ex (fun p hp4 j hj => C.q4 hp4 hj) hlb
      obtain ⟨q4, qn⟩ := lab_lt hlb
      obtain ⟨i4, iu⟩ := lus_lt hi
      cases sh with
      | true =>
        obtain ⟨h1, e1, C1⟩ := C.c75s (d := d) hp9 hlb
        have r1 := (TA.of C1 hb).t170s (d := d) R B hp9 hlb hi
        have I1 : IV (n + 1) S P (up1 Q q (some j)) O X := ⟨I.1, I.2.1, I.2.2.1, I.2.2.2.1, fun j' hj' hu => I.2.2.2.2.1 j' hj' (by rw [usr_add q4 qn] at hu; omega), by have := I.2.2.2.2.2; omega⟩
        exact St.mk C1.k2 e1 r1 I1 (by omega) (by omega) (Or.inl ⟨rfl, rfl⟩)
      | false =>
        have hl : (owL P O).length + 12 ≤ 128 := by have := I.len; omega
        have hP := I.pm hj
        obtain ⟨h1, e1, C1⟩ := C.c75c (d := d) hp9 hlb hi I.1 hl hP (fun q hq => ((I.2.2.1 j hj).2 q hq).2.2.1)
        have r1 := (TA.of C1 hb).t170c (d := d) R B I.2.2.1.pb hp9 hlb hi I.1 hl hP
        obtain ⟨g1, g2, g3⟩ := OW.fk I.1 hl hj i4 I.2.2.1.pm I.2.2.1.pb (I.2.2.2.2.1 i i4 iu)
        obtain ⟨k1, k2⟩ := kCs_ok (P j) S (I.2.2.1 j hj).2
        have I1 : IV (n + 1) (kCs (P j) S).1 (up1 P i (kCs (P j) S).2) (up1 Q q (some i)) O X := by
          refine ⟨g1, by rw [g2 0 0 (by decide) bas_00]; exact I.2.1, I.2.2.1.up (by rw [k1]; exact (I.2.2.1 j hj).1) k2, I.2.2.2.1.keep I.1.1 g2 g3.fg, fun j' hj' hu => ?_, by rw [g3.nx]; have := I.2.2.2.2.2; omega⟩
          rw [usr_add q4 qn] at hu
          by_cases e : j' = i
          · rw [if_pos e] at hu; omega
          · rw [up1_ne e]
            exact I.2.2.2.2.1 j' hj' (by omega)
        exact St.mk C1.k2 e1 r1 I1 (by omega) (by omega) (Or.inl ⟨rfl, rfl⟩)
  · exact St.mk C.thr.k2 (C.c75n (d := d) hn9) ((TA.of C.thr hb).t170n R B hn9) I.up (by omega) (by omega) (Or.inr ⟨0, rfl, by decide, rfl, by decide⟩)
/-- EXIT -/
theorem st_exit (hC : Cm n h) (v : Int32) : St (d + 7) n 76 171 [.inl v] [1, 0, 0, 0] h := by
  obtain ⟨z, sl, pm, S, Q, P, O, H, X, W, M, C, hb, R, I, hz, hs⟩ := hC
  have B := I.ob
  rcases P_or Q v with ⟨p, j, hp9⟩ | hn9
  · have hj := C.q4 hp9.1 hp9.2.2
    by_cases hp0 : p = 0
    · subst hp0
      exact St.mk C.thr.k2 (C.c760 (d := d) hp9) ((TA.of C.thr hb).t171n R B (Or.inr ⟨j, hp9⟩)) I.up (by omega) (by omega) (Or.inr ⟨0, rfl, by decide, rfl, by decide⟩)
    · have hP := I.pm hj
      have hN := own_PN I.1 hj
      have hv : ∀ q ∈ P j, ∀ m ∈ q.2, m.1 < 2 ∧ m.2.1 < 128 ∧ ¬ (m.1 = 0 ∧ m.2.1 = 0) := fun q hq m hm => ⟨(hP q hq m hm).1, I.1.lt (hP q hq m hm).1 (hP q hq m hm).2, hN q hq m hm⟩
      have hvO : ∀ f, f < 5 → (O p f).1 = true → ∀ m ∈ (O p f).2.1, m.1 < 2 ∧ m.2.1 < 128 ∧ ¬ (m.1 = 0 ∧ m.2.1 = 0) := fun f hf hu m hm => ⟨(row_own I hp9.1 hf hu m hm).1, I.1.lt (row_own I hp9.1 hf hu m hm).1 (row_own I hp9.1 hf hu m hm).2, own_ON I.1 hp9.1 hf hu m hm⟩
      obtain ⟨h1, e1, C1⟩ := C.c76 (d := d) hp9 hp0 (fun q hq m hm => ⟨(hv q hq m hm).1, (hv q hq m hm).2.1⟩) (fun f hf hu m hm => ⟨(hvO f hf hu m hm).1, (hvO f hf hu m hm).2.1⟩)
      have r1 := (TA.of C1 hb).t171 (d := d) R B I.2.2.1.pb hp9 hp0 hv hvO
      obtain ⟨g1, g2, g3⟩ := OW.ex (Q := Q) I.1 hp9.1 hj I.2.2.1.pm (fun f hf hu m hm => (hvO f hf hu m hm).1)
      have hrw : RWs S (clO O p 5) := fun p' f' hp' hf' hu => by
        unfold clO at hu ⊢
        by_cases e : p' = p ∧ f' < 5
        · rw [if_pos e] at hu; cases hu
        · rw [if_neg e] at hu ⊢; exact I.2.2.2.1 p' f' hp' hf' hu
      have I1 : IV (n + 1) (kEx P Q p j (kCf O p (List.range 5) S)) (pEx P Q p j) (up1 Q p none) (clO O p 5) X := by
        refine ⟨g1, by rw [g2 0 0 (by decide) bas_00]; exact I.2.1, ?_, hrw.keep I.1.1 g2 g3.fg, fun j' hj' hu => ?_, by rw [g3.nx]; have := I.2.2.2.2.2; omega⟩
        · unfold pEx
          split
          · exact I.2.2.1.up (Nat.zero_le _) (fun q hq => by cases hq)
          · exact I.2.2.1
        · have h1 := usr_sub hp9.1 hp9.2.2 j'
          unfold pEx
          by_cases e : j' = j
          · subst e
            rw [if_pos hu, up1_eq]
          · rw [if_neg e] at h1
            have h2 : P j' = [] := I.2.2.2.2.1 j' hj' (by omega)
            split
            · rw [up1_ne e]; exact h2
            · exact h2
      exact St.mk C1.k2 e1 r1 I1 (by omega) (by omega) (Or.inl ⟨rfl, rfl⟩)
  · exact St.mk C.thr.k2 (C.c76n (d := d) hn9) ((TA.of C.thr hb).t171n R B (Or.inl hn9)) I.up (by omega) (by omega) (Or.inr ⟨0, rfl, by decide, rfl, by decide⟩)
/-- WIRE, SERVER, PROCESS -/
theorem st_wire (hC : Cm n h) (v w : Int32) : St0 (d + 7) n 77 172 [.inl v, .inl w] h := by
  obtain ⟨z, sl, pm, S, Q, P, O, H, X, W, M, C, hb, R, I, hz, hs⟩ := hC
  obtain ⟨h2, M', e2, T2, R2, -⟩ := (TA.of C hb).t172 (d := d) R I.ob C.ml.1 C.ml.2 v w
  exact St.mk0 C.k2 (C.c77 (d := d) v w) ⟨h2, M', e2, T2, R2⟩ I.up (by omega) (by omega)
theorem st_server (hC : Cm n h) (v w : Int32) : St0 (d + 7) n 78 173 [.inl v, .inl w] h := by
  obtain ⟨z, sl, pm, S, Q, P, O, H, X, W, M, C, hb, R, I, hz, hs⟩ := hC
  obtain ⟨h2, M', e2, T2, R2, -⟩ := (TA.of C hb).t173 (d := d) R I.ob I.1.1 v w
  exact St.mk0 C.k2 (C.c78 (d := d) v w) ⟨h2, M', e2, T2, R2⟩ I.up (by omega) (by omega)
theorem st_process (hC : Cm n h) (v w : Int32) : St0 (d + 7) n 79 174 [.inl v, .inl w] h := by
  obtain ⟨z, sl, pm, S, Q, P, O, H, X, W, M, C, hb, R, I, hz, hs⟩ := hC
  by_cases h1 : ∃ p, p < 4 ∧ v = nI p
  · by_cases h2 : ∃ c, c < 4 ∧ w = nI c
    · obtain ⟨p, hp4, rfl⟩ := h1
      obtain ⟨c, hc4, rfl⟩ := h2
      obtain ⟨h2, M', e2, T2, R2, -⟩ := (TA.of C hb).t174 (d := d) R I.ob I.2.2.1.pb hp4 hc4 (y := (P, O, H)) rfl rfl
      exact St.mk0 C.k2 (C.c79 (d := d) hp4 hc4) ⟨h2, M', e2, T2, R2⟩ I.up (by omega) (by omega)
    · have hn : (∀ p, p < 4 → v ≠ nI p) ∨ ∀ c, c < 4 → w ≠ nI c := Or.inr fun c hc e => h2 ⟨c, hc, e⟩
      obtain ⟨h2, M', e2, T2, R2, -⟩ := (TA.of C hb).t174n (d := d) R I.ob hn
      exact St.mk0 C.k2 (C.c79n (d := d) hn) ⟨h2, M', e2, T2, R2⟩ I.up (by omega) (by omega)
  · have hn : (∀ p, p < 4 → v ≠ nI p) ∨ ∀ c, c < 4 → w ≠ nI c := Or.inl fun p hp4 e => h1 ⟨p, hp4, e⟩
    obtain ⟨h2, M', e2, T2, R2, -⟩ := (TA.of C hb).t174n (d := d) R I.ob hn
    exact St.mk0 C.k2 (C.c79n (d := d) hn) ⟨h2, M', e2, T2, R2⟩ I.up (by omega) (by omega)
end STR

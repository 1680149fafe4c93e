/-! THE INVARIANT -/
def PQ (q : zP) : Prop := q.1.1 < 2 ∧ q.1.2 < 300 ∧ q.2.length ≤ 3 ∧ q.2 ≠ [] ∧ ∀ m ∈ q.2, m.1 < 2
def PB2 (P : Nat → List zP) : Prop := ∀ j, j < 4 → (P j).length ≤ 4 ∧ ∀ q ∈ P j, PQ q
def RWs (S : zS) (O : Nat → Nat → zU) : Prop := ∀ p f, p < 4 → f < 5 → (O p f).1 = true → RI S (O p f)
def IV (n : Nat) (S : zS) (P : Nat → List zP) (Q : Nat → Option Nat) (O : Nat → Nat → zU) (X : zX) : Prop := OW S (owL P O) ∧ (S.1 0).2.2.1 0 = some 0 ∧ PB2 P ∧ RWs S O ∧ (∀ j, j < 4 → usr Q j = 0 → P j = []) ∧ 3 * nxs S + X.1.length + X.2.1.length ≤ n + 6
section IVD
variable {S S' S'' : zS} {P P' : Nat → List zP} {Q : Nat → Option Nat} {O O' : Nat → Nat → zU} {F L L' G : List (Nat × Nat)} {p f j s h k q n c i : Nat} {x : Nat × Nat} {W : zW} {X X' : zX} {ns nk : List Nat} {dir : Bool}
theorem PB2.pb (hB : PB2 P) : PB P := fun j hj => ⟨(hB j hj).1, fun q hq => ⟨((hB j hj).2 q hq).1, ((hB j hj).2 q hq).2.1, ((hB j hj).2 q hq).2.2.1, ((hB j hj).2 q hq).2.2.2.1⟩⟩
theorem PB2.pm (hB : PB2 P) : PM2 P := fun j hj q hq => ((hB j hj).2 q hq).2.2.2.2
theorem PB2.up (hB : PB2 P) {ps : List zP} (hl : ps.length ≤ 4) (hq : ∀ q ∈ ps, PQ q) : PB2 (up1 P j ps) := fun j' hj' => by
  by_cases e : j' = j
  · subst e; rw [up1_eq]; exact ⟨hl, hq⟩
  · rw [up1_ne e]; exact hB j' hj'
theorem flm_len {α β : Type} (g : α → List β) (b : Nat) : ∀ l : List α, (∀ a ∈ l, (g a).length ≤ b) → (l.flatMap g).length ≤ l.length * b := by
  intro l
  induction l with
  | nil => intro _; exact Nat.zero_le _
  | cons a l ih =>
    intro hl
    rw [List.flatMap_cons, List.length_append, List.length_cons]
    have h1 := hl a (by simp)
    have h2 := ih (fun a' h' => hl a' (by simp [h']))
    rw [Nat.succ_mul]
    omega
theorem mps_len (hl : (P j).length ≤ 4) (hq : ∀ q ∈ P j, q.2.length ≤ 3) : (mps (P j)).length ≤ 12 := by
  have := flm_len (fun q : zP => q.2.map hp2) 3 (P j) (fun q hq' => by rw [List.length_map]; exact hq q hq')
  unfold mps
  omega
theorem IV.len (hI : IV n S P Q O X) : (owL P O).length ≤ 110 := by
  have h1 : (hmP P).length ≤ 48 := by
    have := flm_len (fun j => mps (P j)) 12 (List.range 4) (fun j hj => mps_len (hI.2.2.1 j (List.mem_range.mp hj)).1 (fun q hq => ((hI.2.2.1 j (List.mem_range.mp hj)).2 q hq).2.2.1))
    rw [List.length_range] at this
    exact this
  have h2 : (hmO O).length ≤ 60 := by
    have := flm_len (fun p => (List.range 5).flatMap fun f => rowh (O p f)) 15 (List.range 4) (fun p hp9 => by
      have := flm_len (fun f => rowh (O p f)) 3 (List.range 5) (fun f hf => by
        unfold rowh
        cases hu : (O p f).1
        · exact Nat.zero_le _
        · show ((O p f).2.1.map hp2).length ≤ 3
          rw [List.length_map]
          exact (hI.2.2.2.1 p f (List.mem_range.mp hp9) (List.mem_range.mp hf) hu).2.1)
      rw [List.length_range] at this
      exact this)
    rw [List.length_range] at this
    exact this
  unfold owL
  rw [List.length_cons, List.length_cons, List.length_append]
  omega
theorem IV.ob (hI : IV n S P Q O X) : OB O := fun p f hp9 hf hu => by
  have := hI.2.2.2.1 p f hp9 hf hu
  exact ⟨this.2.1, fun e => by have h1 := this.1; rw [e] at h1; exact absurd h1 (Nat.not_lt_zero _)⟩
theorem IV.wk (hI : IV n S P Q O X) : WK S bgn := by
  have hw := hI.1.1 0 (by decide)
  exact ⟨(by decide), hI.2.1, hw.2.2.2.2.2.2.1.symm, hw.2.2.2.2.2.2.2.2.1⟩
theorem IV.pm (hI : IV n S P Q O X) (hj : j < 4) : PM P j (owL P O) := own_PM hj (hI.2.2.1.pm j hj)
theorem IV.nx (hI : IV n S P Q O X) (hn : n < 512) : ∀ t, t < 2 → (S.1 t).1 < 250 := fun t ht => by
  have h1 := hI.2.2.2.2.2
  unfold nxs at h1
  have : t = 0 ∨ t = 1 := by omega
  rcases this with rfl | rfl <;> omega
theorem IV.xx (hI : IV n S P Q O X) (hX : X'.1.length + X'.2.1.length ≤ X.1.length + X.2.1.length + 1) : IV (n + 1) S P Q O X' :=
  ⟨hI.1, hI.2.1, hI.2.2.1, hI.2.2.2.1, hI.2.2.2.2.1, by have := hI.2.2.2.2.2; omega⟩
theorem IV.up (hI : IV n S P Q O X) : IV (n + 1) S P Q O X := hI.xx (Nat.le_succ _)
theorem IV.x0 (hI : IV n S P Q O X) (a b : Option (List Nat)) : IV (n + 1) S P Q O ([], [], a, b) := hI.xx (Nat.zero_le _)
theorem row_bas (hp9 : p < 4) (hf : f < 5) (hu : (O p f).1 = true) {m : zM} (hm : m ∈ (O p f).2.1) : (m.1, m.2.1) ∈ bas O := by
  unfold bas hmO
  simp only [List.mem_cons, List.mem_flatMap, List.mem_range]
  refine Or.inr (Or.inr ⟨p, hp9, f, hf, ?_⟩)
  unfold rowh
  rw [hu]
  exact List.mem_map.mpr ⟨m, hm, rfl⟩
theorem RWs.keep (hr : RWs S O) (hw : ∀ t, t < 2 → VW (S.1 t)) (kp : KP (bas O) S S') (fg : FG S S') : RWs S' O := fun p f hp9 hf hu =>
  (hr p f hp9 hf hu).keep hw (fun m hm => kp m.1 m.2.1 ((hr p f hp9 hf hu).2.2.2.2.2.1 m hm) (row_bas hp9 hf hu hm)) fg
theorem RWs.up (hr : RWs S O) {u : zU} (hu : u.1 = true → RI S u) : RWs S (up2 O p f u) := fun p' f' hp9 hf h1 => by
  by_cases e : p' = p ∧ f' = f
  · obtain ⟨rfl, rfl⟩ := e
    rw [up2_eq] at h1 ⊢
    exact hu h1
  · rw [up2_ne e] at h1 ⊢
    exact hr p' f' hp9 hf h1
theorem bas_00 : (0, 0) ∈ bas O := by unfold bas; simp
/-- the servers go on, rows and places stay -/
theorem IV.sv (hI : IV n S P Q O X) (hO : OW S' (owL P O)) (kp : KP (owL P O) S S') (fg : FG S S') (hX : 3 * nxs S' + X'.1.length + X'.2.1.length ≤ n + 7) : IV (n + 1) S' P Q O X' :=
  ⟨hO, by rw [kp 0 0 (by decide) own_00]; exact hI.2.1, hI.2.2.1, hI.2.2.2.1.keep hI.1.1 (kp.sub bas_own) fg, hI.2.2.2.2.1, by omega⟩
theorem IV.sf (hI : IV n S P Q O X) (hO : OW S' (owL P O)) (kp : KP (owL P O) S S') (sf : SF S S') (hX : X'.1.length + X'.2.1.length ≤ X.1.length + X.2.1.length + 1) : IV (n + 1) S' P Q O X' :=
  hI.sv hO kp sf.fg (by rw [sf.nx]; have := hI.2.2.2.2.2; omega)
/-- places change -/
theorem IV.pl (hI : IV n S P Q O X) (hO : OW S' (owL P' O)) (hB : PB2 P') (hn : ∀ j, j < 4 → usr Q j = 0 → P' j = []) (kp : KP (bas O) S S') (sf : SF S S') (hX : X'.1.length + X'.2.1.length ≤ X.1.length + X.2.1.length + 1) : IV (n + 1) S' P' Q O X' :=
  ⟨hO, by rw [kp 0 0 (by decide) bas_00]; exact hI.2.1, hB, hI.2.2.2.1.keep hI.1.1 kp sf.fg, hn, by rw [sf.nx]; have := hI.2.2.2.2.2; omega⟩
theorem jnL_ok {m : zM} {l : List zM} (hl : l.length ≤ 2) (hm : m.1 < 2) (hv : ∀ y ∈ l, y.1 < 2) : (jnL k m l).length ≤ 3 ∧ jnL k m l ≠ [] ∧ ∀ y ∈ jnL k m l, y.1 < 2 := by
  unfold jnL
  split
  · exact ⟨by simp; omega, by simp, fun y hy => by
      rcases List.mem_cons.mp hy with e | e
      · rw [e]; exact hm
      · exact hv y e⟩
  · exact ⟨by simp; omega, by simp, fun y hy => by
      rcases List.mem_append.mp hy with e | e
      · exact hv y e
      · rw [List.mem_singleton.mp e]; exact hm⟩
theorem usr_pos (hp9 : p < 4) (hq : Q p = some j) : usr Q j ≠ 0 := by
  have := usr_sub hp9 hq j
  rw [if_pos rfl] at this
  omega
theorem kJ2_ok {m : zM} (hB : PB2 P) (hV : ∀ t, t < 2 → VW (S.1 t)) (hW : WK S W) (hj : j < 4) (hm : m.1 < 2) : PB2 (kJ2 P j S W k m).2.1 ∧ ∀ j', j' ≠ j → (kJ2 P j S W k m).2.1 j' = P j' := by
  have hi : W.2.2.1 < 300 := by
    have h1 := (hV W.1 hW.1).2.2.2.1 _ _ hW.2.1
    have h2 := (hV W.1 hW.1).2.1
    omega
  have hu : ∀ ps, ∀ j', j' ≠ j → up1 P j ps j' = P j' := fun ps j' h => up1_ne h
  have hap : ∀ l, (jnL k m l).length ≤ 3 ∧ jnL k m l ≠ [] ∧ (∀ y ∈ jnL k m l, y.1 < 2) → (P j).length < 4 → PB2 (up1 P j (P j ++ [((W.1, W.2.2.1), jnL k m l)])) := fun l hl h4 => by
    refine hB.up (by simp; omega) fun q hq => ?_
    rcases List.mem_append.mp hq with e | e
    · exact (hB j hj).2 q e
    · rw [List.mem_singleton.mp e]
      exact ⟨hW.1, hi, hl.1, hl.2.1, hl.2.2⟩
  have hset : ∀ k' l, k' < (P j).length → (jnL k m l).length ≤ 3 ∧ jnL k m l ≠ [] ∧ (∀ y ∈ jnL k m l, y.1 < 2) → PB2 (up1 P j ((P j).set k' (((P j).getD k' dP).1, jnL k m l))) := fun k' l hk' hl => by
    refine hB.up (by rw [List.length_set]; exact (hB j hj).1) fun q hq => ?_
    rcases List.mem_or_eq_of_mem_set hq with e | e
    · exact (hB j hj).2 q e
    · have h1 := (hB j hj).2 _ (getD_memP hk')
      rw [e]
      exact ⟨h1.1, h1.2.1, hl.1, hl.2.1, hl.2.2⟩
  unfold kJ2
  cases hpi : pidx (P j) W.1 W.2.2.1 with
  | none =>
    dsimp only
    by_cases c1 : 4 ≤ (P j).length ∨ W.2.2.2 = false
    · rw [if_pos c1]; exact ⟨hB, fun _ _ => rfl⟩
    · rw [if_neg c1]
      have h4 : (P j).length < 4 := Nat.lt_of_not_le fun h => c1 (Or.inl h)
      by_cases c2 : k % 4 = 0
      · rw [if_pos c2]
        exact ⟨hap _ (jnL_ok (by simp) hm (fun y hy => by cases hy)) h4, hu _⟩
      · rw [if_neg c2]
        exact ⟨hap _ (jnL_ok (by simp) hm (fun y hy => by rw [List.mem_singleton.mp hy]; exact hW.1)) h4, hu _⟩
  | some k' =>
    dsimp only
    have hk' := pidx_lt hpi
    by_cases c1 : (k % 4 ≠ 0 ∧ 3 ≤ ((P j).getD k' dP).2.length) ∨ W.2.2.2 = false
    · rw [if_pos c1]; exact ⟨hB, fun _ _ => rfl⟩
    · rw [if_neg c1]
      by_cases c2 : k % 4 = 0
      · rw [if_pos c2]
        exact ⟨hset _ _ hk' (jnL_ok (by simp) hm (fun y hy => by cases hy)), hu _⟩
      · rw [if_neg c2]
        have h3 : ((P j).getD k' dP).2.length ≤ 2 := by
          refine Nat.le_of_lt_succ (Nat.lt_of_not_le fun h => c1 (Or.inl ⟨c2, h⟩))
        exact ⟨hset _ _ hk' (jnL_ok h3 hm ((hB j hj).2 _ (getD_memP hk')).2.2.2.2), hu _⟩
theorem kJn_ok {m : zM} (hO : OW S ((m.1, m.2.1) :: owL P O)) (hl : (owL P O).length + 4 < 128) (hW : WK S bgn) (hj : j < 4) (hm : m.1 < 2) (hB : PB2 P) : PB2 (kJn P j S ns k m).2.1 ∧ ∀ j', j' ≠ j → (kJn P j S ns k m).2.1 j' = P j' := by
  have h0 : (0, 0) ∈ owL P O := own_00
  have h00 : (0, 0) ∈ (m.1, m.2.1) :: owL P O := List.mem_cons_of_mem _ h0
  have h2 := hB.pm
  have hP : PM P j ((m.1, m.2.1) :: owL P O) := fun q hq y hy => ⟨h2 j hj q hq y hy, List.mem_cons_of_mem _ (own_PM hj (h2 j hj) q hq y hy).2⟩
  obtain ⟨o1, o2⟩ := OW.wk h00 (by simp; omega) hP ns S bgn hO hW
  unfold kJn
  rcases hx : kWk P j ns S bgn with ⟨T, r⟩
  rw [hx] at o1 o2
  cases r with
  | inl e => exact ⟨hB, fun _ _ => rfl⟩
  | inr W =>
    obtain ⟨g1, g2, -⟩ := o2 W rfl
    exact kJ2_ok hB g1.1 g2 hj hm
theorem kBd_ok (hO : OW S (owL P O)) (hl : (owL P O).length + 4 < 128) (hW : WK S bgn) (hj : j < 4) (hB : PB2 P) : PB2 (kBd P j S ns nk k).2.1 ∧ ∀ j', j' ≠ j → (kBd P j S ns nk k).2.1 j' = P j' := by
  have h0 : (0, 0) ∈ owL P O := own_00
  have hP := own_PM (O := O) hj (hB.pm j hj)
  obtain ⟨o1, o2⟩ := OW.wk h0 (by omega) hP nk S bgn hO hW
  have kp := kp_wk h0 (by omega) hP nk S bgn hO hW
  have sf := SF.wk (P := P) (j := j) nk S bgn
  unfold kBd
  rcases hx : kWk P j nk S bgn with ⟨T, r⟩
  rw [hx] at o1 o2 kp sf
  cases r with
  | inl e => exact ⟨hB, fun _ _ => rfl⟩
  | inr W =>
    obtain ⟨g1, g2, -⟩ := o2 W rfl
    dsimp only
    by_cases hd : W.2.2.2 = false
    · rw [if_pos hd]
      exact ⟨hB, fun _ _ => rfl⟩
    · rw [if_neg hd]
      have kp3 := kp.trans (kp_own g1 (by omega) g2.1)
      have sf3 := sf.trans (SF.own T W)
      have O3 := g1.own h0 (by omega) g2.1
      exact kJn_ok (ns := ns) (k := k) (m := (W.1, (kOwn T W).2, decide (k / 4 = 1))) O3 hl (hW.keep sf3 kp3 h0) hj g2.1 hB
theorem kMt_ok (hO : OW S (owL P O)) (hl : (owL P O).length + 4 < 128) (hW : WK S bgn) (hj : j < 4) (hs : s < 2) (hB : PB2 P) : PB2 (kMt P j S ns s k).2.1 ∧ ∀ j', j' ≠ j → (kMt P j S ns s k).2.1 j' = P j' := by
  have h0 : (0, 0) ∈ owL P O := own_00
  have kp := kp_att hO hs (by omega)
  have sf := SF.att S s (fre S s)
  exact kJn_ok (ns := ns) (k := k) (m := (s, fre S s, decide (k / 4 = 1))) (hO.att hs (by omega)) hl (hW.keep sf kp h0) hj hs hB
theorem kUm_ok (hj : j < 4) (hB : PB2 P) : PB2 (kUm P j S ns).2.1 ∧ ∀ j', j' ≠ j → (kUm P j S ns).2.1 j' = P j' := by
  unfold kUm
  rcases kWk P j ns S bgn with ⟨T, r⟩
  cases r with
  | inl e => exact ⟨hB, fun _ _ => rfl⟩
  | inr W =>
    dsimp only
    cases hpi : pidx (P j) W.1 W.2.2.1 with
    | none => exact ⟨hB, fun _ _ => rfl⟩
    | some k' =>
      dsimp only
      refine ⟨hB.up ?_ fun q hq => (hB j hj).2 q (List.mem_of_mem_eraseIdx hq), fun j' h => up1_ne h⟩
      have h1 := List.length_eraseIdx_le (P j) k'
      have h2 := (hB j hj).1
      omega
theorem kCpy_ne : ∀ (ms : List zM) (S : zS), ms ≠ [] → (kCpy ms S).2 ≠ [] := by
  intro ms S h e
  have h1 := kCpy_len ms S
  rw [e] at h1
  exact h (List.eq_nil_of_length_eq_zero h1.symm)
theorem kCs_ok : ∀ (ps : List zP) (S : zS), (∀ q ∈ ps, PQ q) → (kCs ps S).2.length = ps.length ∧ ∀ q ∈ (kCs ps S).2, PQ q := by
  intro ps
  induction ps with
  | nil => intro S _; exact ⟨rfl, fun q hq => (by cases hq)⟩
  | cons q ps ih =>
    intro S hq
    obtain ⟨a, b⟩ := ih (kCpy q.2 S).1 (fun q' h' => hq q' (by simp [h']))
    have h1 := hq q (by simp)
    refine ⟨by show (kCs ps _).2.length + 1 = ps.length + 1; rw [a], fun q' h' => ?_⟩
    rcases List.mem_cons.mp h' with e | e
    · rw [e]
      exact ⟨h1.1, h1.2.1, by show (kCpy q.2 S).2.length ≤ 3; rw [kCpy_len]; exact h1.2.2.1, kCpy_ne _ _ h1.2.2.2.1, kCpy_2 _ _ h1.2.2.2.2⟩
    · exact b q' e
/-- a name space that is in use changes -/
theorem IV.pj (hI : IV n S P Q O X) (hp9 : p < 4) (hq : Q p = some j) (hO : OW S' (owL P' O)) (hB : PB2 P' ∧ ∀ j', j' ≠ j → P' j' = P j') (kp : KP (bas O) S S') (sf : SF S S') (a b : Option (List Nat)) : IV (n + 1) S' P' Q O ([], [], a, b) :=
  hI.pl hO hB.1 (fun j' hj' hu => by
    have hne : j' ≠ j := fun e => by subst e; exact usr_pos hp9 hq hu
    rw [hB.2 j' hne]
    exact hI.2.2.2.2.1 j' hj' hu) kp sf (Nat.zero_le _)
end IVD

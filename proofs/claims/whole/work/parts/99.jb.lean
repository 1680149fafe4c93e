/-! THE INVARIANT: what is opened for writing is plain; create -/
section IVG
variable {S S' S'' : zS} {P : Nat → List zP} {Q : Nat → Option Nat} {O O' : Nat → Nat → zU} {F L L' G : List (Nat × Nat)} {p f j s h k q n c : Nat} {x : Nat × Nat} {W : zW} {ns nk : List Nat}
theorem oOP_pl {V : zV} {h m g : Nat} (hm : m ≠ 0) (hr : oOP V h m = .inr g) : V.2.2.1 h = some g ∧ (V.2.1 g).2.1 = false := by
  unfold oOP at hr
  cases hg : V.2.2.1 h with
  | none => rw [hg] at hr; cases hr
  | some i =>
    rw [hg] at hr
    dsimp only at hr
    cases ha : (V.2.1 i).1
    · rw [ha] at hr; cases hr
    · rw [ha] at hr
      dsimp only [cond_true] at hr
      cases hb : ((V.2.1 i).2.1 && !Nat.beq m 0)
      · rw [hb] at hr
        dsimp only [cond_false] at hr
        injection hr with hr
        subst hr
        refine ⟨rfl, ?_⟩
        have hm0 : Nat.beq m 0 = false := by
          cases h9 : Nat.beq m 0
          · rfl
          · exact absurd (Nat.eq_of_beq_eq_true h9) hm
        rw [hm0] at hb
        simpa using hb
      · rw [hb] at hr; cases hr
theorem kOpL_pl {m : Nat} (hm : m ≠ 0) : ∀ (ms : List zM) (S : zS) (e : Nat) (G : List (Nat × Nat)), OW S (ms.map hp2 ++ G) → (0, 0) ∈ G → (∀ x ∈ ms, x.1 < 2) → ∀ y ∈ (kOpL m ms S e).2.1, ∀ i, ((kOpL m ms S e).1.1 y.1).2.2.1 y.2.1 = some i → (((kOpL m ms S e).1.1 y.1).2.1 i).2.1 = false := by
  intro ms
  induction ms with
  | nil => intro S e G _ _ _ y hy; cases hy
  | cons a ms ih =>
    intro S e G hO h0 hv y hy i hi
    have ha := hv a (by simp)
    have hO1 : OW S (hp2 a :: (ms.map hp2 ++ G)) := hO
    have hOP : OW (kOP S a.1 a.2.1 m) (hp2 a :: (ms.map hp2 ++ G)) := hO1.opn ha m
    cases hr : oOP (S.1 a.1) a.2.1 m with
    | inl e' =>
      have hk : kOpL m (a :: ms) S e = kOpL m ms (kGo (kOP S a.1 a.2.1 m) a.1 a.2.1) e' := by
        show (match oOP (S.1 a.1) a.2.1 m with
          | .inl e' => kOpL m ms (kGo (kOP S a.1 a.2.1 m) a.1 a.2.1) e'
          | .inr _ => _) = _
        rw [hr]
      rw [hk] at hy hi ⊢
      exact ih _ _ G (hOP.goh (by simp [h0]) ha).1 h0 (fun x hx => hv x (by simp [hx])) y hy i hi
    | inr g =>
      have hk : kOpL m (a :: ms) S e = ((kOpL m ms (kOP S a.1 a.2.1 m) e).1, a :: (kOpL m ms (kOP S a.1 a.2.1 m) e).2.1, (kOpL m ms (kOP S a.1 a.2.1 m) e).2.2) := by
        show (match oOP (S.1 a.1) a.2.1 m with
          | .inl e' => _
          | .inr _ => ((kOpL m ms (kOP S a.1 a.2.1 m) e).1, a :: (kOpL m ms (kOP S a.1 a.2.1 m) e).2.1, (kOpL m ms (kOP S a.1 a.2.1 m) e).2.2)) = _
        rw [hr]
      rw [hk] at hy hi ⊢
      have hO2 : OW (kOP S a.1 a.2.1 m) (ms.map hp2 ++ (hp2 a :: G)) := hOP.cnt fun x => by
        rw [List.count_append, List.count_cons, List.count_cons, List.count_append]; omega
      have hv2 : ∀ x ∈ ms, x.1 < 2 := fun x hx => hv x (by simp [hx])
      rcases List.mem_cons.mp hy with e1 | e1
      · subst e1
        have kp := kp_opl (m := m) ms _ e _ hO2 (List.mem_cons_of_mem _ h0) hv2
        have sf := SF.opl (m := m) ms (kOP S y.1 y.2.1 m) e
        have k1 : ((kOpL m ms (kOP S y.1 y.2.1 m) e).1.1 y.1).2.2.1 y.2.1 = (S.1 y.1).2.2.1 y.2.1 := by
          rw [kp y.1 y.2.1 ha (by exact List.mem_cons_self)]
          exact (show KP [(y.1, y.2.1)] S (kOP S y.1 y.2.1 m) from KP.eq rfl) y.1 y.2.1 ha (by simp)
        obtain ⟨p1, p2⟩ := oOP_pl hm hr
        have hi : ((kOpL m ms (kOP S y.1 y.2.1 m) e).1.1 y.1).2.2.1 y.2.1 = some i := hi
        rw [k1, p1] at hi
        injection hi with hi
        subst hi
        show (((kOpL m ms (kOP S y.1 y.2.1 m) e).1.1 y.1).2.1 g).2.1 = false
        rw [(sf y.1).2, (SF.op S y.1 y.2.1 m y.1).2]
        exact p2
      · exact ih _ _ _ hO2 (List.mem_cons_of_mem _ h0) hv2 y e1 i hi
end IVG

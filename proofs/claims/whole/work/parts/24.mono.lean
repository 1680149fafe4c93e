/-! THE HEAP GROWS: of the abstract machine alone -/
def gMo (K : ag_K4) (res : ag_O × ag_H) : Prop := ∀ (pc : Nat) (L : ag_L) (S : List ag_V) (h : ag_H), K pc L S h = some res → h.1 ≤ res.2.1 ∧ h.2.1 ≤ res.2.2.1
theorem m_set {h : ag_H} {a : Nat} {q : ag_C} {res : ag_O × ag_H} (hm : (ag_set h a q).1 ≤ res.2.1 ∧ (ag_set h a q).2.1 ≤ res.2.2.1) : h.1 ≤ res.2.1 ∧ h.2.1 ≤ res.2.2.1 := hm
theorem m_new {h : ag_H} {n : Nat} {q : ag_C} {res : ag_O × ag_H} (hm : (ag_new h n q).1 ≤ res.2.1 ∧ (ag_new h n q).2.1 ≤ res.2.2.1) : h.1 ≤ res.2.1 ∧ h.2.1 ≤ res.2.2.1 := by
  have h1 : h.1 + 1 ≤ res.2.1 := hm.1
  have h2 : h.2.1 + n ≤ res.2.2.1 := hm.2
  exact ⟨by omega, by omega⟩
set_option maxRecDepth 100000 in
set_option maxHeartbeats 4000000 in
theorem m_ex {rt pc nx x1 x2 x3 : Nat} {L : ag_L} {S : List ag_V} {h : ag_H} {K : ag_K4} {res : ag_O × ag_H} {call : Nat → List ag_V → ag_H → ag_R} (hcall : ∀ (y : Nat) (A : List ag_V) (h : ag_H) (r : ag_O × ag_H), call y A h = some r → h.1 ≤ r.2.1 ∧ h.2.1 ≤ r.2.2.1) (hK : gMo K res) {i : Instr}
    (hr : ag_ex rt call pc i nx x1 x2 x3 L S h K = some res) : h.1 ≤ res.2.1 ∧ h.2.1 ≤ res.2.2.1 := by
  have hcl : ∀ {k : Nat} {r : ag_R} {S' : List ag_V}, (∀ r1, r = some r1 → h.1 ≤ r1.2.1 ∧ h.2.1 ≤ r1.2.2.1) → ag_cl k r S' (fun S h => K nx L S h) = some res → h.1 ≤ res.2.1 ∧ h.2.1 ≤ res.2.2.1 := by
    intro k r S' hr1 hq
    obtain ⟨-, r1, e1, hv, ht⟩ := g_cl hq
    have a1 := hr1 r1 e1
    cases h1 : r1.1 with
    | inl v =>
      have a2 := hK _ _ _ _ (hv v h1)
      exact ⟨Nat.le_trans a1.1 a2.1, Nat.le_trans a1.2 a2.2⟩
    | inr x =>
      rw [ht x h1]
      exact a1
  cases i
  case aload_n n =>
    obtain ⟨x, -, hk⟩ := g_ldR (show ag_ldR L n.val (fun o => K nx L (.inr o :: S) h) = some res from hr)
    exact hK _ _ _ _ hk
  case aload n =>
    obtain ⟨x, -, hk⟩ := g_ldR (show ag_ldR L n (fun o => K nx L (.inr o :: S) h) = some res from hr)
    exact hK _ _ _ _ hk
  case iload_n n =>
    obtain ⟨x, -, hk⟩ := g_ldI (show ag_ldI L n.val (fun o => K nx L (.inl o :: S) h) = some res from hr)
    exact hK _ _ _ _ hk
  case iload n =>
    obtain ⟨x, -, hk⟩ := g_ldI (show ag_ldI L n (fun o => K nx L (.inl o :: S) h) = some res from hr)
    exact hK _ _ _ _ hk
  case iinc n d =>
    obtain ⟨x, -, hk⟩ := g_ldI (show ag_ldI L n (fun x => K nx (L.set n (some (.inl (x + ag_lit d)))) S h) = some res from hr)
    exact hK _ _ _ _ hk
  case iconst n =>
    exact hK _ _ _ _ hr
  case bipush n =>
    exact hK _ _ _ _ hr
  case sipush n =>
    exact hK _ _ _ _ hr
  case aconst_null =>
    exact hK _ _ _ _ hr
  case goto off =>
    exact hK _ _ _ _ hr
  case astore_n n =>
    have hr : (match (generalizing := false) S with
      | .inr o :: S => K nx (L.set n.val (some (.inr o))) S h
      | _ => none) = some res := hr
    split at hr
    · exact hK _ _ _ _ hr
    · cases hr
  case astore n =>
    have hr : (match (generalizing := false) S with
      | .inr o :: S => K nx (L.set n (some (.inr o))) S h
      | _ => none) = some res := hr
    split at hr
    · exact hK _ _ _ _ hr
    · cases hr
  case istore_n n =>
    have hr : (match (generalizing := false) S with
      | .inl o :: S => K nx (L.set n.val (some (.inl o))) S h
      | _ => none) = some res := hr
    split at hr
    · exact hK _ _ _ _ hr
    · cases hr
  case istore n =>
    have hr : (match (generalizing := false) S with
      | .inl o :: S => K nx (L.set n (some (.inl o))) S h
      | _ => none) = some res := hr
    split at hr
    · exact hK _ _ _ _ hr
    · cases hr
  case dup =>
    have hr : (match (generalizing := false) S with
      | v :: S => K nx L (v :: v :: S) h
      | _ => none) = some res := hr
    split at hr
    · exact hK _ _ _ _ hr
    · cases hr
  case dup2 =>
    have hr : (match (generalizing := false) S with
      | v :: w :: S => K nx L (v :: w :: v :: w :: S) h
      | _ => none) = some res := hr
    split at hr
    · exact hK _ _ _ _ hr
    · cases hr
  case pop =>
    have hr : (match (generalizing := false) S with
      | _ :: S => K nx L S h
      | _ => none) = some res := hr
    split at hr
    · exact hK _ _ _ _ hr
    · cases hr
  case i2c =>
    have hr : (match (generalizing := false) S with
      | .inl x :: S => K nx L (.inl (x.toUInt32 % 65536).toInt32 :: S) h
      | _ => none) = some res := hr
    split at hr
    · exact hK _ _ _ _ hr
    · cases hr
  case iadd =>
    have hr : (match (generalizing := false) S with
      | .inl b :: .inl a :: S => K nx L (.inl (a + b) :: S) h
      | _ => none) = some res := hr
    split at hr
    · exact hK _ _ _ _ hr
    · cases hr
  case isub =>
    have hr : (match (generalizing := false) S with
      | .inl b :: .inl a :: S => K nx L (.inl (a - b) :: S) h
      | _ => none) = some res := hr
    split at hr
    · exact hK _ _ _ _ hr
    · cases hr
  case imul =>
    have hr : (match (generalizing := false) S with
      | .inl b :: .inl a :: S => K nx L (.inl (a * b) :: S) h
      | _ => none) = some res := hr
    split at hr
    · exact hK _ _ _ _ hr
    · cases hr
  case iand =>
    have hr : (match (generalizing := false) S with
      | .inl b :: .inl a :: S => K nx L (.inl (a &&& b) :: S) h
      | _ => none) = some res := hr
    split at hr
    · exact hK _ _ _ _ hr
    · cases hr
  case ior =>
    have hr : (match (generalizing := false) S with
      | .inl b :: .inl a :: S => K nx L (.inl (a ||| b) :: S) h
      | _ => none) = some res := hr
    split at hr
    · exact hK _ _ _ _ hr
    · cases hr
  case ishl =>
    have hr : (match (generalizing := false) S with
      | .inl b :: .inl a :: S => K nx L (.inl (a <<< (b &&& 31)) :: S) h
      | _ => none) = some res := hr
    split at hr
    · exact hK _ _ _ _ hr
    · cases hr
  case iushr =>
    have hr : (match (generalizing := false) S with
      | .inl b :: .inl a :: S => K nx L (.inl ((a.toUInt32 >>> (b.toUInt32 &&& Int32.toUInt32 31)).toInt32) :: S) h
      | _ => none) = some res := hr
    split at hr
    · exact hK _ _ _ _ hr
    · cases hr
  case idiv =>
    have hr : (match (generalizing := false) S with
      | .inl b :: .inl a :: S => ag_dv b (K nx L (.inl (a / b) :: S) h)
      | _ => none) = some res := hr
    split at hr
    · exact hK _ _ _ _ (g_dv hr).2
    · cases hr
  case irem =>
    have hr : (match (generalizing := false) S with
      | .inl b :: .inl a :: S => ag_dv b (K nx L (.inl (a - a / b * b) :: S) h)
      | _ => none) = some res := hr
    split at hr
    · exact hK _ _ _ _ (g_dv hr).2
    · cases hr
  case ifCond cd off =>
    have hr : (match (generalizing := false) S with
      | .inl x :: S => ag_br cd x (ag_lit 0) (K x1 L S h) (K nx L S h)
      | _ => none) = some res := hr
    split at hr
    · (unfold ag_br at hr; split at hr <;> split at hr <;> exact hK _ _ _ _ hr)
    · cases hr
  case if_icmp cd off =>
    have hr : (match (generalizing := false) S with
      | .inl b :: .inl a :: S => ag_br cd a b (K x1 L S h) (K nx L S h)
      | _ => none) = some res := hr
    split at hr
    · (unfold ag_br at hr; split at hr <;> split at hr <;> exact hK _ _ _ _ hr)
    · cases hr
  case ifnull off =>
    have hr : (match (generalizing := false) S with
      | .inr o :: S => if o = none then K x1 L S h else K nx L S h
      | _ => none) = some res := hr
    split at hr
    · (split at hr <;> exact hK _ _ _ _ hr)
    · cases hr
  case ifnonnull off =>
    have hr : (match (generalizing := false) S with
      | .inr o :: S => if o = none then K nx L S h else K x1 L S h
      | _ => none) = some res := hr
    split at hr
    · (split at hr <;> exact hK _ _ _ _ hr)
    · cases hr
  case getfield idx =>
    have hr : (match (generalizing := false) S with
      | .inr o :: S => (match (generalizing := false) x3 with
        | 0 => ag_gI h o x1 x2 fun x => K nx L (.inl x :: S) h
        | _ => ag_gR h o x1 x2 fun x => K nx L (.inr x :: S) h)
      | _ => none) = some res := hr
    split at hr
    · split at hr
      · obtain ⟨z1, z2, z3, z4, z5, z6, g⟩ := g_gI hr
        exact hK _ _ _ _ g
      · obtain ⟨z1, z2, z3, z4, z5, z6, g⟩ := g_gR hr
        exact hK _ _ _ _ g
    · cases hr
  case putfield idx =>
    have hr : (match (generalizing := false) S with
      | .inl v :: .inr o :: S => (match (generalizing := false) x3 with
        | 0 => ag_pF h o x1 x2 (.inl v) fun h => K nx L S h
        | 3 => ag_isC v (ag_pF h o x1 x2 (.inl v) fun h => K nx L S h)
        | 4 => ag_isB v (ag_pF h o x1 x2 (.inl v) fun h => K nx L S h)
        | _ => none)
      | .inr v :: .inr o :: S => (match (generalizing := false) x3 with
        | 1 => ag_pF h o x1 x2 (.inr v) fun h => K nx L S h
        | _ => none)
      | _ => none) = some res := hr
    split at hr
    · split at hr
      · obtain ⟨a, fs, -, -, -, g⟩ := g_pF hr
        exact m_set (hK _ _ _ _ g)
      · obtain ⟨a, fs, -, -, -, g⟩ := g_pF (g_isC hr).2
        exact m_set (hK _ _ _ _ g)
      · obtain ⟨a, fs, -, -, -, g⟩ := g_pF (g_isB hr).2
        exact m_set (hK _ _ _ _ g)
      · cases hr
    · split at hr
      · obtain ⟨a, fs, -, -, -, g⟩ := g_pF hr
        exact m_set (hK _ _ _ _ g)
      · cases hr
    · cases hr
  case iaload =>
    have hr : (match (generalizing := false) S with
      | .inl i :: .inr o :: S => ag_xI h o 100 i fun x => K nx L (.inl x :: S) h
      | _ => none) = some res := hr
    split at hr
    · (obtain ⟨z1, z2, z3, z4, z5, z6, z7, g⟩ := g_xI hr; exact hK _ _ _ _ g)
    · cases hr
  case caload =>
    have hr : (match (generalizing := false) S with
      | .inl i :: .inr o :: S => ag_xI h o 101 i fun x => K nx L (.inl x :: S) h
      | _ => none) = some res := hr
    split at hr
    · (obtain ⟨z1, z2, z3, z4, z5, z6, z7, g⟩ := g_xI hr; exact hK _ _ _ _ g)
    · cases hr
  case baload =>
    have hr : (match (generalizing := false) S with
      | .inl i :: .inr o :: S => ag_xI h o 102 i fun x => K nx L (.inl x :: S) h
      | _ => none) = some res := hr
    split at hr
    · (obtain ⟨z1, z2, z3, z4, z5, z6, z7, g⟩ := g_xI hr; exact hK _ _ _ _ g)
    · cases hr
  case aaload =>
    have hr : (match (generalizing := false) S with
      | .inl i :: .inr o :: S => ag_xR h o x1 i fun x => K nx L (.inr x :: S) h
      | _ => none) = some res := hr
    split at hr
    · (obtain ⟨z1, z2, z3, z4, z5, z6, z7, g⟩ := g_xR hr; exact hK _ _ _ _ g)
    · cases hr
  case iastore =>
    have hr : (match (generalizing := false) S with
      | .inl v :: .inl i :: .inr o :: S => ag_xP h o 100 i (.inl v) fun h => K nx L S h
      | _ => none) = some res := hr
    split at hr
    · (obtain ⟨a, xs, -, -, -, -, g⟩ := g_xP hr; exact m_set (hK _ _ _ _ g))
    · cases hr
  case castore =>
    have hr : (match (generalizing := false) S with
      | .inl v :: .inl i :: .inr o :: S => ag_isC v (ag_xP h o 101 i (.inl v) fun h => K nx L S h)
      | _ => none) = some res := hr
    split at hr
    · (obtain ⟨a, xs, -, -, -, -, g⟩ := g_xP (g_isC hr).2; exact m_set (hK _ _ _ _ g))
    · cases hr
  case bastore =>
    have hr : (match (generalizing := false) S with
      | .inl v :: .inl i :: .inr o :: S => ag_isB v (ag_xP h o 102 i (.inl v) fun h => K nx L S h)
      | _ => none) = some res := hr
    split at hr
    · (obtain ⟨a, xs, -, -, -, -, g⟩ := g_xP (g_isB hr).2; exact m_set (hK _ _ _ _ g))
    · cases hr
  case aastore =>
    have hr : (match (generalizing := false) S with
      | .inr v :: .inl i :: .inr o :: S => ag_oK h v x2 (ag_xP h o x1 i (.inr v) fun h => K nx L S h)
      | _ => none) = some res := hr
    split at hr
    · (obtain ⟨a, xs, -, -, -, -, g⟩ := g_xP (g_oK hr).2; exact m_set (hK _ _ _ _ g))
    · cases hr
  case arraylength =>
    have hr : (match (generalizing := false) S with
      | .inr o :: S => ag_xN h o x1 fun x => K nx L (.inl x :: S) h
      | _ => none) = some res := hr
    split at hr
    · (obtain ⟨z1, z2, z3, z4, z5, g⟩ := g_xN hr; exact hK _ _ _ _ g)
    · cases hr
  case newarray at9 =>
    have hr : (match (generalizing := false) S with
      | .inl n :: S => ag_na h n x1 (.inl 0) fun o h => K nx L (.inr o :: S) h
      | _ => none) = some res := hr
    split at hr
    · exact m_new (hK _ _ _ _ (g_na hr).2.2)
    · cases hr
  case anewarray idx =>
    have hr : (match (generalizing := false) S with
      | .inl n :: S => ag_na h n x1 (.inr none) fun o h => K nx L (.inr o :: S) h
      | _ => none) = some res := hr
    split at hr
    · exact m_new (hK _ _ _ _ (g_na hr).2.2)
    · cases hr
  case new idx =>
    have hr : (match (generalizing := false) x3 with
      | 9 => (match (generalizing := false) S with
        | [] => some (.inr x1, ag_thr h)
        | _ => none)
      | _ => ag_nw h x1 fun o h => K nx L (.inr o :: S) h) = some res := hr
    split at hr
    · split at hr
      · cases hr
        exact ⟨Nat.le_succ _, Nat.le_add_right _ _⟩
      · cases hr
    · exact m_new (hK _ _ _ _ hr)
  case invokespecial idx =>
    have hr : (match (generalizing := false) x3 with
      | 9 => (match (generalizing := false) S with
        | [.inr o] => ag_nn o (K nx L [] h)
        | _ => none)
      | _ => (match (generalizing := false) S.drop x2 with
        | .inr o :: S' => ag_nn o (match (generalizing := false) S'.drop 8 with
          | [] => ag_bW (call x1 (.inr o :: (S.take x2).reverse) h) fun h => K nx L S' h
          | _ => none)
        | _ => none)) = some res := hr
    split at hr
    · split at hr
      · exact hK _ _ _ _ (g_nn hr).2
      · cases hr
    · split at hr
      · obtain ⟨-, hr⟩ := g_nn hr
        split at hr
        · obtain ⟨h1, e1, g⟩ := g_bW hr
          have a1 := hcall _ _ _ _ e1
          have a2 := hK _ _ _ _ g
          exact ⟨Nat.le_trans a1.1 a2.1, Nat.le_trans a1.2 a2.2⟩
        · cases hr
      · cases hr
  case invokevirtual idx =>
    have hr : (match (generalizing := false) S.drop x2 with
      | .inr o :: S' => ag_at h o (x3 / 10) fun a _ => ag_cl (x3 % 10) (call x1 (.inr (some a) :: (S.take x2).reverse) h) S' fun S h => K nx L S h
      | _ => none) = some res := hr
    split at hr
    · obtain ⟨a, fs, -, -, g⟩ := g_at hr
      exact hcl (fun r1 e1 => hcall _ _ _ _ e1) g
    · cases hr
  case invokestatic idx =>
    have hr : (match (generalizing := false) x3 with
      | 99 => (match (generalizing := false) S with
        | [.inl n, .inl dp, .inr d, .inl sp, .inr s] => ag_cp h s sp d dp n fun h => K nx L [] h
        | _ => none)
      | _ => bif ag_has x2 S then ag_cl (x3 % 10) (call x1 (S.take x2).reverse h) (S.drop x2) fun S h => K nx L S h else none) = some res := hr
    split at hr
    · split at hr
      · unfold ag_cp at hr
        obtain ⟨a, xs, -, -, g⟩ := g_at hr
        obtain ⟨b, ys, -, -, g⟩ := g_at g
        split at g
        · cases g
        · split at g
          · exact m_set (hK _ _ _ _ g)
          · cases g
      · cases hr
    · cases hh : ag_has x2 S
      · rw [hh] at hr; cases hr
      · rw [hh] at hr
        exact hcl (fun r1 e1 => hcall _ _ _ _ e1) hr
  case tableswitch d lo hi offs =>
    have hr : (match (generalizing := false) S with
      | .inl x :: S => ag_sw x lo (offs.toList.map fun o => K ((pc : Int) + o).toNat L S h) (K ((pc : Int) + d).toNat L S h)
      | _ => none) = some res := hr
    split at hr
    · unfold ag_sw at hr
      split at hr
      · exact hK _ _ _ _ hr
      · split at hr
        · rename_i r hr9
          obtain ⟨o, -, ho⟩ := List.mem_map.mp (List.mem_of_getElem? hr9)
          rw [← ho] at hr
          exact hK _ _ _ _ hr
        · exact hK _ _ _ _ hr
    · cases hr
  case ireturn =>
    have hr : (match (generalizing := false) S with
      | [.inl x] => ag_rI rt x h
      | _ => none) = some res := hr
    split at hr
    · unfold ag_rI at hr
      split at hr
      · cases hr; exact ⟨Nat.le_refl _, Nat.le_refl _⟩
      · obtain ⟨-, hr⟩ := g_isC hr; cases hr; exact ⟨Nat.le_refl _, Nat.le_refl _⟩
      · obtain ⟨-, hr⟩ := g_isB hr; cases hr; exact ⟨Nat.le_refl _, Nat.le_refl _⟩
      · cases hr
    · cases hr
  case areturn =>
    have hr : (match (generalizing := false) S with
      | [.inr x] => bif Nat.beq rt 2 then some (.inl (some (.inr x)), h) else none
      | _ => none) = some res := hr
    split at hr
    · cases hq : Nat.beq rt 2
      · rw [hq] at hr; cases hr
      · rw [hq] at hr; cases hr; exact ⟨Nat.le_refl _, Nat.le_refl _⟩
    · cases hr
  case return_ =>
    have hr : (match (generalizing := false) S with
      | [] => bif Nat.beq rt 0 then some (.inl none, h) else none
      | _ => none) = some res := hr
    split at hr
    · cases hq : Nat.beq rt 0
      · rw [hq] at hr; cases hr
      · rw [hq] at hr; cases hr; exact ⟨Nat.le_refl _, Nat.le_refl _⟩
    · cases hr
  all_goals (exact absurd hr (by intro h9; cases h9))
theorem m_in {rt : Nat} {call : Nat → List ag_V → ag_H → ag_R} {back : ag_K4} {res : ag_O × ag_H} (hcall : ∀ (y : Nat) (A : List ag_V) (h : ag_H) (r : ag_O × ag_H), call y A h = some r → h.1 ≤ r.2.1 ∧ h.2.1 ≤ r.2.2.1) (hb : gMo back res) : ∀ es : List ag_I, gMo (ag_in rt call back es) res := by
  intro es
  induction es with
  | nil => intro pc L S h hr; cases hr
  | cons e es ih =>
    intro pc L S h hr
    have hr : (bif Nat.beq e.1 pc then ag_ex rt call e.1 e.2.1 e.2.2.1 e.2.2.2.1 e.2.2.2.2.1 e.2.2.2.2.2 L S h (fun pc' L' S' h' => bif Nat.blt e.1 pc' then ag_in rt call back es pc' L' S' h' else back pc' L' S' h') else ag_in rt call back es pc L S h) = some res := hr
    cases hq : Nat.beq e.1 pc
    · rw [hq] at hr; exact ih _ _ _ _ hr
    · rw [hq, cond_true] at hr
      refine m_ex hcall (fun pc' L' S' h' hk => ?_) hr
      cases hz : Nat.blt e.1 pc'
      · rw [hz] at hk; exact hb _ _ _ _ hk
      · rw [hz] at hk; exact ih _ _ _ _ hk
theorem m_out {rt : Nat} {call : Nat → List ag_V → ag_H → ag_R} {tab : List ag_I} {res : ag_O × ag_H} (hcall : ∀ (y : Nat) (A : List ag_V) (h : ag_H) (r : ag_O × ag_H), call y A h = some r → h.1 ≤ r.2.1 ∧ h.2.1 ≤ r.2.2.1) : ∀ n : Nat, gMo (ag_out rt call tab n) res := by
  intro n
  induction n with
  | zero => intro pc L S h hr; cases hr
  | succ n ih => exact m_in hcall ih tab
theorem m_run (T : ag_T) : ∀ (d y : Nat) (A : List ag_V) (h : ag_H) (r : ag_O × ag_H), ag_run T d y A h = some r → h.1 ≤ r.2.1 ∧ h.2.1 ≤ r.2.2.1 := by
  intro d
  induction d with
  | zero => intro y A h r hr; cases hr
  | succ d ih => intro y A h r hr; exact m_out ih 4000 _ _ _ _ hr

/-! PATHS of the class are read from texts -/
theorem gD_l (xs ys : List Nat) {k : Nat} (h : k < xs.length) : (xs ++ ys).getD k 0 = xs.getD k 0 := by
  rw [List.getD_eq_getElem?_getD, List.getD_eq_getElem?_getD, List.getElem?_append_left h]
section PATH
variable {z sl d : Nat} {kd ln : Nat → Nat} {R : Nat → Nat → Option Nat} {a t : Nat} {tx : List Nat}
theorem dropLast_get (ns : List Nat) {k : Nat} (h : k < ns.dropLast.length) : ns.dropLast.getD k 0 = ns.getD k 0 ∧ k < ns.length := by
  rw [List.length_dropLast] at h
  refine ⟨?_, by omega⟩
  rw [List.getD_eq_getElem?_getD, List.getD_eq_getElem?_getD, List.getElem?_dropLast, if_pos h]
theorem s25_55 (W : WS kd ln R) (hk : kd a = 4) (ht : kd t = 8) : ∀ (n i : Nat) (ns : List Nat) (I : Nat → Nat → Int32), tx.length + 1 < i + n → i ≤ tx.length → CT I t tx → I a 2 = nI 1 → I a 1 = nI ns.length → (∀ k, k < ns.length → ns.getD k 0 < 8 ∧ I (a + 1) k = nI (97 + ns.getD k 0)) → 2 * ns.length ≤ i →
    ∃ I', g25 (ag_run gT (d + 1)) n (some a) (some t) (nI i) (hp z sl kd ln I R) = some (.inl none, hp z sl kd ln I' R) ∧ CPt I' a (ps1 (tx.drop i) ns) ∧ ∀ b j, b ≠ a → b ≠ a + 1 → I' b j = I b j := by
  obtain ⟨k1, l1, r1⟩ := W_4 W hk
  have hta : t ≠ a := by intro e; rw [e] at ht; omega
  have hta1 : t ≠ a + 1 := by intro e; rw [e] at ht; omega
  have hta2 : t + 1 ≠ a := by intro e; have := (W_8 W ht).1; rw [e] at this; omega
  -- no path: the loop ends
  have bad : ∀ (n i : Nat) (I : Nat → Nat → Int32), ∃ I', g25 (ag_run gT (d + 1)) (n + 1) (some a) (some t) (nI i) (hp z sl kd ln (up2 I a 2 (nI 0)) R) = some (.inl none, hp z sl kd ln I' R) ∧ CPt I' a none ∧ ∀ b j, b ≠ a → b ≠ a + 1 → I' b j = I b j := by
    intro n i I
    refine ⟨up2 I a 2 (nI 0), ?_, ⟨by rw [up2_eq]; rfl, fun _ h => by cases h⟩, fun b j h1 _ => up2_na h1⟩
    show f25_55 _ _ _ _ _ _ = _
    unfold f25_55 f25_170
    rw [x_gI W hk rfl, up2_eq, lit_0, if_pos rfl]
  intro n
  induction n with
  | zero => intro i ns I h1 h2; omega
  | succ n ih =>
    intro i ns I hn hi hT hpr hcn hns h2n
    have hlen := hT.2.1
    have hlt := hT.2.2.2.2
    by_cases c0 : i = tx.length
    · refine ⟨I, ?_, ?_, fun _ _ _ _ => rfl⟩
      · show f25_55 _ _ _ _ _ _ = _
        unfold f25_55 f25_170
        rw [x_gI W hk rfl, hpr, lit_0, if_neg (by decide), x_gI W ht rfl, hT.1, if_pos (nI_le (by omega) (by omega))]
      · rw [List.drop_eq_nil_of_le (by omega)]
        show CPt I a (some ns)
        exact ⟨hpr, fun ns' h => by cases h; exact ⟨hcn, by omega, hns⟩⟩
    · have hil : i < tx.length := by omega
      obtain ⟨n1, rfl⟩ : ∃ n1, n = n1 + 1 := ⟨n - 1, by omega⟩
      have e0 := s58 (z := z) (sl := sl) (d := d) W ht hT i (by omega)
      have e1 := s58 (z := z) (sl := sl) (d := d) W ht hT (i + 1) (by omega)
      have e2 := s58 (z := z) (sl := sl) (d := d) W ht hT (i + 2) (by omega)
      have b0 : tx.getD i 0 < 65536 := hlt _ (getD_mem hil)
      have b1 : tx.getD (i + 1) 0 < 65536 := by
        by_cases h9 : i + 1 < tx.length
        · exact hlt _ (getD_mem h9)
        · rw [List.getD_eq_getElem?_getD, List.getElem?_eq_none (by omega)]; decide
      have b2 : tx.getD (i + 2) 0 < 65536 := by
        by_cases h9 : i + 2 < tx.length
        · exact hlt _ (getD_mem h9)
        · rw [List.getD_eq_getElem?_getD, List.getElem?_eq_none (by omega)]; decide
      have start : g25 (ag_run gT (d + 1)) (n1 + 1 + 1) (some a) (some t) (nI i) (hp z sl kd ln I R) = (if nI (tx.getD i 0) = nI 47 then
          if nI (tx.getD (i + 1) 0) < nI 97 then f25_123 (ag_run gT (d + 1)) (g25 (ag_run gT (d + 1)) (n1 + 1)) (some a) (some t) (nI i) (nI (tx.getD (i + 1) 0)) (hp z sl kd ln I R)
          else if nI 104 < nI (tx.getD (i + 1) 0) then f25_123 (ag_run gT (d + 1)) (g25 (ag_run gT (d + 1)) (n1 + 1)) (some a) (some t) (nI i) (nI (tx.getD (i + 1) 0)) (hp z sl kd ln I R)
          else ag_bV (ag_run gT (d + 1) 26 [.inr (some a), .inl (nI (tx.getD (i + 1) 0))] (hp z sl kd ln I R)) fun h10 => g25 (ag_run gT (d + 1)) (n1 + 1) (some a) (some t) (nI (i + 2)) h10
        else g25 (ag_run gT (d + 1)) (n1 + 1) (some a) (some t) (nI i) (hp z sl kd ln (up2 I a 2 (nI 0)) R)) := by
        show f25_55 _ _ _ _ _ _ = _
        unfold f25_55 f25_170 f25_167
        rw [x_gI W hk rfl, hpr, lit_0, if_neg (show ¬ nI 1 = nI 0 by decide), x_gI W ht rfl, hT.1, if_neg (nI_ge hil (by omega)), x_atW ht rfl, lit_1, lit_2, lit8_47, lit8_97, lit8_104, nI_add, nI_add, e1, b_I, x_atW ht rfl, e0, b_I, x_atW hk rfl, b_B (x := nI 0) (Or.inl rfl), x_pI W hk rfl]
      have mid : f25_123 (ag_run gT (d + 1)) (g25 (ag_run gT (d + 1)) (n1 + 1)) (some a) (some t) (nI i) (nI (tx.getD (i + 1) 0)) (hp z sl kd ln I R) = (if nI (tx.getD (i + 1) 0) = nI 46 then
          if nI (tx.getD (i + 2) 0) = nI 46 then
            g25 (ag_run gT (d + 1)) (n1 + 1) (some a) (some t) (nI (i + 3)) (hp z sl kd ln (up2 I a 1 (nI ns.dropLast.length)) R)
          else g25 (ag_run gT (d + 1)) (n1 + 1) (some a) (some t) (nI i) (hp z sl kd ln (up2 I a 2 (nI 0)) R)
        else g25 (ag_run gT (d + 1)) (n1 + 1) (some a) (some t) (nI i) (hp z sl kd ln (up2 I a 2 (nI 0)) R)) := by
        have e9 : ag_run gT (d + 1) 175 [.inl (nI 0), .inl (nI ns.length - nI 1)] (hp z sl kd ln I R) = some (.inl (some (.inl (nI ns.dropLast.length))), hp z sl kd ln I R) := by
          rw [r175, List.length_dropLast]
          unfold f175 f175_10
          cases hl : ns.length with
          | zero => rw [if_neg (by decide)]
          | succ m =>
            rw [nI_sub (by omega)]
            cases m with
            | zero => rw [if_neg (by decide)]
            | succ m => rw [if_pos (nI_lt (by omega) (by omega))]
        unfold f25_123 f25_162 f25_167
        rw [lit8_46, lit_2, lit_3, lit_1, lit_0, nI_add, nI_add, x_atW ht rfl, e2, b_I, x_gI W hk rfl, hcn, e9, b_I, x_pI W hk rfl, b_B (x := nI 0) (Or.inl rfl), x_pI W hk rfl]
      rw [start]
      have hd0 : tx.drop i = tx.getD i 0 :: tx.drop (i + 1) := drop_getD hil
      obtain ⟨Ib, eb, cb, fb⟩ := bad n1 i I
      by_cases q0 : tx.getD i 0 = 47
      · rw [if_pos (by rw [q0])]
        by_cases hi1 : i + 1 < tx.length
        · have hd1 : tx.drop (i + 1) = tx.getD (i + 1) 0 :: tx.drop (i + 2) := drop_getD hi1
          by_cases q1 : 97 ≤ tx.getD (i + 1) 0 ∧ tx.getD (i + 1) 0 ≤ 104
          · rw [if_neg (nI_nlt q1.1 (by omega)), if_neg (nI_nlt q1.2 (by omega)), s26 W hk hcn (by omega) b1, b_V]
            obtain ⟨I', g1, g2, g3⟩ := ih (i + 2) (ns ++ [tx.getD (i + 1) 0 - 97]) (up2 (up2 I (a + 1) ns.length (nI (tx.getD (i + 1) 0))) a 1 (nI (ns.length + 1))) (by omega) (by omega) (hT.congr fun x j x1 x2 => by rw [up2_na (by omega), up2_na (by omega)]) (by rw [up2_ni (by omega), up2_na (by omega)]; exact hpr) (by rw [up2_eq]; simp) (fun k hk2 => by
              simp at hk2
              rw [up2_na (by omega)]
              by_cases ek : k = ns.length
              · subst ek
                rw [up2_eq, show (ns ++ [tx.getD (i + 1) 0 - 97]).getD ns.length 0 = tx.getD (i + 1) 0 - 97 by simp [List.getD_eq_getElem?_getD]]
                exact ⟨by omega, by congr 1; omega⟩
              · rw [up2_ni ek, gD_l _ _ (show k < ns.length by omega)]
                exact hns k (by omega)) (by simp; omega)
            refine ⟨I', g1, ?_, fun b j b1 b2 => by rw [g3 b j b1 b2, up2_na b1, up2_na b2]⟩
            rw [hd0, hd1]
            unfold ps1
            rw [if_pos q0, if_pos q1]
            exact g2
          · have emid : (if nI (tx.getD (i + 1) 0) < nI 97 then f25_123 (ag_run gT (d + 1)) (g25 (ag_run gT (d + 1)) (n1 + 1)) (some a) (some t) (nI i) (nI (tx.getD (i + 1) 0)) (hp z sl kd ln I R)
                else if nI 104 < nI (tx.getD (i + 1) 0) then f25_123 (ag_run gT (d + 1)) (g25 (ag_run gT (d + 1)) (n1 + 1)) (some a) (some t) (nI i) (nI (tx.getD (i + 1) 0)) (hp z sl kd ln I R)
                else ag_bV (ag_run gT (d + 1) 26 [.inr (some a), .inl (nI (tx.getD (i + 1) 0))] (hp z sl kd ln I R)) fun h10 => g25 (ag_run gT (d + 1)) (n1 + 1) (some a) (some t) (nI (i + 2)) h10) = f25_123 (ag_run gT (d + 1)) (g25 (ag_run gT (d + 1)) (n1 + 1)) (some a) (some t) (nI i) (nI (tx.getD (i + 1) 0)) (hp z sl kd ln I R) := by
              by_cases q2 : tx.getD (i + 1) 0 < 97
              · rw [if_pos (nI_lt q2 (by decide))]
              · rw [if_neg (nI_nlt (by omega) (by omega)), if_pos (nI_lt (by omega) (by omega))]
            rw [emid, mid]
            by_cases q2 : tx.getD (i + 1) 0 = 46
            · rw [if_pos (by rw [q2])]
              by_cases hi2 : i + 2 < tx.length
              · have hd2 : tx.drop (i + 2) = tx.getD (i + 2) 0 :: tx.drop (i + 3) := drop_getD hi2
                by_cases q3 : tx.getD (i + 2) 0 = 46
                · rw [if_pos (by rw [q3])]
                  obtain ⟨I', g1, g2, g3⟩ := ih (i + 3) ns.dropLast (up2 I a 1 (nI ns.dropLast.length)) (by omega) (by omega) (hT.congr fun x j x1 x2 => by rw [up2_na (by omega)]) (by rw [up2_ni (by omega)]; exact hpr) (by rw [up2_eq]) (fun k hk2 => by
                    obtain ⟨y1, y2⟩ := dropLast_get ns hk2
                    rw [up2_na (by omega), y1]; exact hns k y2) (by rw [List.length_dropLast]; omega)
                  refine ⟨I', g1, ?_, fun b j b1 b2 => by rw [g3 b j b1 b2, up2_na b1]⟩
                  rw [hd0, hd1, hd2]
                  unfold ps1
                  rw [if_pos q0, if_neg q1, if_pos q2]
                  dsimp only
                  rw [if_pos q3]
                  exact g2
                · rw [if_neg (by rw [nI_eq (by omega) (by omega)]; exact q3)]
                  refine ⟨Ib, eb, ?_, fb⟩
                  rw [hd0, hd1, hd2]
                  unfold ps1
                  rw [if_pos q0, if_neg q1, if_pos q2]
                  dsimp only
                  rw [if_neg q3]
                  exact cb
              · rw [if_neg (by rw [show tx.getD (i + 2) 0 = 0 by rw [List.getD_eq_getElem?_getD, List.getElem?_eq_none (by omega)]; rfl]; decide)]
                refine ⟨Ib, eb, ?_, fb⟩
                rw [hd0, hd1, List.drop_eq_nil_of_le (by omega)]
                unfold ps1
                rw [if_pos q0, if_neg q1, if_pos q2]
                exact cb
            · rw [if_neg (by rw [nI_eq (by omega) (by omega)]; exact q2)]
              refine ⟨Ib, eb, ?_, fb⟩
              rw [hd0, hd1]
              unfold ps1
              rw [if_pos q0, if_neg q1, if_neg q2]
              exact cb
        · have z1 : tx.getD (i + 1) 0 = 0 := by rw [List.getD_eq_getElem?_getD, List.getElem?_eq_none (by omega)]; rfl
          rw [if_pos (by rw [z1]; decide), mid, if_neg (by rw [z1]; decide)]
          refine ⟨Ib, eb, ?_, fb⟩
          rw [hd0, List.drop_eq_nil_of_le (by omega)]
          exact cb
      · rw [if_neg (by rw [nI_eq (by omega) (by omega)]; exact q0)]
        refine ⟨Ib, eb, ?_, fb⟩
        rw [hd0]
        by_cases hi1 : i + 1 < tx.length
        · rw [drop_getD hi1]
          unfold ps1
          rw [if_neg q0]
          exact cb
        · rw [List.drop_eq_nil_of_le (by omega)]
          exact cb
theorem s25 {I : Nat → Nat → Int32} (W : WS kd ln R) (hk : kd a = 4) (ht : kd t = 8) (hT : CT I t tx) : ∃ I', ag_run gT (d + 2) 25 [.inr (some a), .inr (some t)] (hp z sl kd ln I R) = some (.inl none, hp z sl kd ln I' R) ∧ CPt I' a (pth tx) ∧ ∀ b j, b ≠ a → b ≠ a + 1 → I' b j = I b j := by
  have hta : t ≠ a := by intro e; rw [e] at ht; omega
  have hta1 : t ≠ a + 1 := by intro e; rw [e] at ht; have := (W_4 W hk).1; omega
  have hta2 : t + 1 ≠ a := by intro e; have := (W_8 W ht).1; rw [e] at this; omega
  have hlen := hT.2.1
  have hT1 : CT (up2 I a 1 (nI 0)) t tx := hT.congr fun x j x1 x2 => up2_na (by omega)
  rw [r25]
  unfold f25 f25_18 f25_43 f25_44 f25_54
  rw [lit_0, lit_1, lit8_47, x_pI W hk rfl, x_gI W ht rfl, hT1.1]
  by_cases h0 : tx = []
  · subst h0
    refine ⟨up2 (up2 I a 1 (nI 0)) a 2 (nI 0), ?_, ⟨by rw [up2_eq]; rfl, fun ns h => by cases h⟩, fun b j b1 _ => by rw [up2_na b1, up2_na b1]⟩
    have hT2 : CT (up2 (up2 I a 1 (nI 0)) a 2 (nI 0)) t [] := hT1.congr fun x j x1 x2 => up2_na (by omega)
    rw [if_pos (show nI ([] : List Nat).length ≤ nI 0 by decide), b_B (x := nI 0) (Or.inl rfl), x_pI W hk rfl, x_gI W ht rfl, hT2.1, if_neg (show ¬ nI ([] : List Nat).length = nI 1 by decide), if_pos rfl]
    unfold f25_55 f25_170
    rw [x_gI W hk rfl, up2_eq, lit_0, if_pos rfl]
  · have hpos : 0 < tx.length := List.length_pos_iff.mpr h0
    rw [if_neg (nI_ge hpos (by omega)), b_B (x := nI 1) (Or.inr rfl), x_pI W hk rfl, x_gI W ht rfl]
    have hT2 : CT (up2 (up2 I a 1 (nI 0)) a 2 (nI 1)) t tx := hT1.congr fun x j x1 x2 => up2_na (by omega)
    rw [hT2.1]
    have fr : ∀ I' : Nat → Nat → Int32, (∀ b j, b ≠ a → b ≠ a + 1 → I' b j = up2 (up2 I a 1 (nI 0)) a 2 (nI 1) b j) → ∀ b j, b ≠ a → b ≠ a + 1 → I' b j = I b j := fun I' h b j b1 b2 => by rw [h b j b1 b2, up2_na b1, up2_na b1]
    have e0 := s58 (z := z) (sl := sl) (d := d) W ht hT2 0 (by omega)
    -- not the root: the loop from 0
    have loop : tx ≠ [47] → ∃ I', f25_55 (ag_run gT (d + 1)) (g25 (ag_run gT (d + 1)) 3999) (some a) (some t) (nI 0) (hp z sl kd ln (up2 (up2 I a 1 (nI 0)) a 2 (nI 1)) R) = some (.inl none, hp z sl kd ln I' R) ∧ CPt I' a (pth tx) ∧ ∀ b j, b ≠ a → b ≠ a + 1 → I' b j = I b j := by
      intro h47
      obtain ⟨I', g1, g2, g3⟩ := s25_55 (z := z) (sl := sl) (d := d) W hk ht 4000 0 [] (up2 (up2 I a 1 (nI 0)) a 2 (nI 1)) (by omega) (by omega) hT2 (by rw [up2_eq]) (by rw [up2_ni (by omega), up2_eq]; rfl) (fun k h => by simp at h) (by simp)
      refine ⟨I', g1, ?_, fr I' g3⟩
      unfold pth
      rw [if_neg h0, if_neg h47]
      exact g2
    by_cases h1 : tx.length = 1
    · obtain ⟨c, rfl⟩ : ∃ c, tx = [c] := List.length_eq_one_iff.mp h1
      rw [if_pos (show nI [c].length = nI 1 from rfl), x_atW ht rfl, e0, b_I]
      have bc : c < 65536 := hT.2.2.2.2 c (by simp)
      by_cases h47 : c = 47
      · subst h47
        rw [if_pos (show nI ([47].getD 0 0) = nI 47 from rfl), if_neg (show ¬ nI 1 = nI 0 by decide)]
        refine ⟨_, ?_, ⟨show up2 (up2 I a 1 (nI 0)) a 2 (nI 1) a 2 = bI (pth [47]).isSome by rw [up2_eq]; rfl, fun ns h => ?_⟩, fr _ (fun _ _ _ _ => rfl)⟩
        · unfold f25_55 f25_170
          rw [x_gI W hk rfl, up2_eq, lit_0, if_neg (show ¬ nI 1 = nI 0 by decide), x_gI W ht rfl, hT2.1, if_pos (show nI [47].length ≤ nI 1 by decide)]
        · have h : some ([] : List Nat) = some ns := h
          cases h
          exact ⟨by rw [up2_ni (by omega), up2_eq]; rfl, by simp, fun i hi => by simp at hi⟩
      · rw [if_neg (show ¬ nI ([c].getD 0 0) = nI 47 by show ¬ nI c = nI 47; rw [nI_eq (by omega) (by omega)]; exact h47), if_pos rfl]
        exact loop (fun h => h47 (by cases h; rfl))
    · rw [if_neg (by rw [nI_eq (by omega) (by omega)]; exact h1), if_pos rfl]
      exact loop (fun h => h1 (by rw [h]; rfl))
end PATH

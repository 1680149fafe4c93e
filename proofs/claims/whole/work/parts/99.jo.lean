/-! THE LAW: the seventeen cases of its loop -/
theorem lGood {y : MethodName} {idx : Nat} {cw : Cond} (h : ∀ w ∈ ([Cond.methodLink lR idx y, .static y, .initialized y.cls, cw] : List Cond), w ∈ lw_tbl ∧ goodWord w = true) : GoodIn gw (va_wsS lR idx y (cw :: gw)) := fun w hw => by
  have key : w ∈ gw := by
    unfold va_wsS at hw
    rcases List.mem_append.mp hw with h1 | h1
    · simp only [List.mem_cons, List.not_mem_nil, or_false] at h1
      refine List.mem_filter.mpr (h w ?_)
      rcases h1 with rfl | rfl | rfl <;> simp
    · rcases List.mem_cons.mp h1 with rfl | h2
      · exact List.mem_filter.mpr (h _ (by simp))
      · exact h2
  exact gGood w key
theorem Cm.k1 {n : Nat} {h : ag_H} (hC : Cm n h) : ∃ fs, h.2.2 0 = some (10, fs) := by
  obtain ⟨z, sl, pm, S, Q, P, O, H, X, W, M, C, -⟩ := hC
  exact CA.k1 C
theorem Cm.k2 {n : Nat} {h : ag_H} (hC : Cm n h) : ∃ fs, h.2.2 230 = some (11, fs) := by
  obtain ⟨z, sl, pm, S, Q, P, O, H, X, W, M, C, -⟩ := hC
  exact CA.k2 C
theorem Cm.bd {n : Nat} {h : ag_H} (hC : Cm n h) (hn : n ≤ 512) : h.1 ≤ 601024 ∧ h.2.1 ≤ 7293034 := by
  obtain ⟨z, sl, pm, S, Q, P, O, H, X, W, M, ⟨kd, ln, I, R, ad, rfl, -⟩, -, -, -, hz, hs⟩ := hC
  exact ⟨(by show z ≤ 601024; omega), (by show sl ≤ 7293034; omega)⟩
theorem lk_sp {oc : ag_O} {k t : Nat} {bv : Int32} {v1 : Int64} {cl : List Nat} (h5 : ∀ e, e < 4 → cl.getD e 0 < 5) (h1 : (∃ x : Int32, oc = .inl (some (.inl x)) ∧ k = 0 ∧ v1 = x.toInt64) ∨ ∃ e, oc = .inr e ∧ k = cl.getD e 0) (h2 : (oc = .inl (some (.inl bv)) ∧ t = 0) ∨ ∃ e, oc = .inr e ∧ e < 4 ∧ t = cl.getD e 0 ∧ 0 < t) : (k = 0 ∧ t = 0 ∧ v1 = bv.toInt64) ∨ (k = t ∧ 0 < t ∧ t < 5) := by
  rcases h2 with ⟨e1, e2⟩ | ⟨e, e1, e2, e3, e4⟩
  · rcases h1 with ⟨x, q1, q2, q3⟩ | ⟨e, q1, q2⟩
    · rw [e1] at q1
      cases q1
      exact Or.inl ⟨q2, e2, q3⟩
    · rw [e1] at q1; cases q1
  · rcases h1 with ⟨x, q1, q2, q3⟩ | ⟨e9, q1, q2⟩
    · rw [e1] at q1; cases q1
    · rw [e1] at q1
      cases q1
      exact Or.inr ⟨by rw [q2, e3], e4, by rw [e3]; exact h5 e e2⟩
theorem lk_ho {oc : ag_O} {t o : Nat} {bv : Int32} {cl : List Nat} (h2 : (oc = .inl (some (.inl bv)) ∧ t = 0) ∨ ∃ e, oc = .inr e ∧ e < 4 ∧ t = cl.getD e 0 ∧ 0 < t) : (∃ z, sO o oc = .inl (some (.inl z))) ∨ ∃ e, sO o oc = .inr e ∧ e < 4 ∧ 0 < cl.getD e 0 := by
  rcases h2 with ⟨e1, e2⟩ | ⟨e, e1, e2, e3, e4⟩
  · exact Or.inl ⟨bv, by rw [e1]; rfl⟩
  · exact Or.inr ⟨e, by rw [e1]; rfl, e2, by rw [← e3]; exact e4⟩
set_option maxRecDepth 100000 in
set_option maxHeartbeats 4000000 in
theorem sW_type : ∀ w ∈ ([Cond.methodLink lR 65 yW_type, .static yW_type, .initialized yW_type.cls, .codeWith yW_type method_3_code 4 (some .int) [(0, 9, 12, 13)]] : List Cond), w ∈ lw_tbl ∧ goodWord w = true := by decide +kernel
set_option maxRecDepth 100000 in
set_option maxHeartbeats 4000000 in
theorem sW_open : ∀ w ∈ ([Cond.methodLink lR 79 yW_open, .static yW_open, .initialized yW_open.cls, .codeWith yW_open method_4_code 5 (some .int) [(0, 10, 13, 19), (0, 10, 17, 13), (0, 10, 21, 21), (0, 10, 25, 23)]] : List Cond), w ∈ lw_tbl ∧ goodWord w = true := by decide +kernel
set_option maxRecDepth 100000 in
set_option maxHeartbeats 4000000 in
theorem sW_create : ∀ w ∈ ([Cond.methodLink lR 83 yW_create, .static yW_create, .initialized yW_create.cls, .codeWith yW_create method_5_code 5 (some .int) [(0, 10, 13, 19), (0, 10, 17, 13), (0, 10, 21, 21), (0, 10, 25, 23)]] : List Cond), w ∈ lw_tbl ∧ goodWord w = true := by decide +kernel
set_option maxRecDepth 100000 in
set_option maxHeartbeats 4000000 in
theorem sW_read : ∀ w ∈ ([Cond.methodLink lR 87 yW_read, .static yW_read, .initialized yW_read.cls, .codeWith yW_read method_6_code 5 (some .int) [(0, 10, 13, 19), (0, 10, 17, 23), (0, 10, 21, 21)]] : List Cond), w ∈ lw_tbl ∧ goodWord w = true := by decide +kernel
set_option maxRecDepth 100000 in
set_option maxHeartbeats 4000000 in
theorem sW_write : ∀ w ∈ ([Cond.methodLink lR 90 yW_write, .static yW_write, .initialized yW_write.cls, .codeWith yW_write method_7_code 6 (some .int) [(0, 12, 15, 19), (0, 12, 19, 13), (0, 12, 23, 21), (0, 12, 27, 23)]] : List Cond), w ∈ lw_tbl ∧ goodWord w = true := by decide +kernel
set_option maxRecDepth 100000 in
set_option maxHeartbeats 4000000 in
theorem sW_close : ∀ w ∈ ([Cond.methodLink lR 94 yW_close, .static yW_close, .initialized yW_close.cls, .codeWith yW_close method_8_code 5 (some .int) [(0, 10, 13, 19)]] : List Cond), w ∈ lw_tbl ∧ goodWord w = true := by decide +kernel
set_option maxRecDepth 100000 in
set_option maxHeartbeats 4000000 in
theorem sW_remove : ∀ w ∈ ([Cond.methodLink lR 97 yW_remove, .static yW_remove, .initialized yW_remove.cls, .codeWith yW_remove method_9_code 4 (some .int) [(0, 9, 12, 19), (0, 9, 15, 21), (0, 9, 18, 23)]] : List Cond), w ∈ lw_tbl ∧ goodWord w = true := by decide +kernel
set_option maxRecDepth 100000 in
set_option maxHeartbeats 4000000 in
theorem sW_stat : ∀ w ∈ ([Cond.methodLink lR 101 yW_stat, .static yW_stat, .initialized yW_stat.cls, .codeWith yW_stat method_10_code 4 (some .int) [(0, 9, 12, 19), (0, 9, 15, 21), (0, 9, 18, 23)]] : List Cond), w ∈ lw_tbl ∧ goodWord w = true := by decide +kernel
set_option maxRecDepth 100000 in
set_option maxHeartbeats 4000000 in
theorem sW_bind : ∀ w ∈ ([Cond.methodLink lR 104 yW_bind, .static yW_bind, .initialized yW_bind.cls, .codeWith yW_bind method_11_code 5 (some .int) [(0, 10, 13, 19), (0, 10, 17, 13), (0, 10, 21, 21), (0, 10, 25, 23)]] : List Cond), w ∈ lw_tbl ∧ goodWord w = true := by decide +kernel
set_option maxRecDepth 100000 in
set_option maxHeartbeats 4000000 in
theorem sW_mount : ∀ w ∈ ([Cond.methodLink lR 107 yW_mount, .static yW_mount, .initialized yW_mount.cls, .codeWith yW_mount method_12_code 6 (some .int) [(0, 12, 15, 19), (0, 12, 19, 13), (0, 12, 23, 21), (0, 12, 27, 23)]] : List Cond), w ∈ lw_tbl ∧ goodWord w = true := by decide +kernel
set_option maxRecDepth 100000 in
set_option maxHeartbeats 4000000 in
theorem sW_unmount : ∀ w ∈ ([Cond.methodLink lR 110 yW_unmount, .static yW_unmount, .initialized yW_unmount.cls, .codeWith yW_unmount method_13_code 4 (some .int) [(0, 9, 12, 19), (0, 9, 15, 21), (0, 9, 18, 23)]] : List Cond), w ∈ lw_tbl ∧ goodWord w = true := by decide +kernel
set_option maxRecDepth 100000 in
set_option maxHeartbeats 4000000 in
theorem sW_fork : ∀ w ∈ ([Cond.methodLink lR 113 yW_fork, .static yW_fork, .initialized yW_fork.cls, .codeWith yW_fork method_14_code 5 (some .int) [(0, 10, 13, 19), (0, 10, 17, 13)]] : List Cond), w ∈ lw_tbl ∧ goodWord w = true := by decide +kernel
set_option maxRecDepth 100000 in
set_option maxHeartbeats 4000000 in
theorem sW_exit : ∀ w ∈ ([Cond.methodLink lR 116 yW_exit, .static yW_exit, .initialized yW_exit.cls, .codeWith yW_exit method_15_code 4 (some .int) [(0, 9, 12, 19)]] : List Cond), w ∈ lw_tbl ∧ goodWord w = true := by decide +kernel

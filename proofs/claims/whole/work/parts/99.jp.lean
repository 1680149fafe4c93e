/-! THE LAW: the seventeen cases of its loop, walked -/
section CASES
variable {p : Program} {l : Launch} {e : Env} {s : State} {m : MethodId} {below : List Frame} {meth : Method} {c : Code} {b L : Nat} {xs : Nat → Int32} {D : ag_D} {cJ : ClassId} {H : Heap} {locs : List Loc} {Q : State → Prop} {h : ag_H} {i n : Nat} {ls : Array Slot} {v0 : Int64}
theorem case_type (X : LX p l s m meth c b L xs D cJ) (hH : LH D cJ s h H v0 locs) (hC : Cm n h) (hn : n < 512) (hL4 : i + 3 < L) (hl : lv_has ls 7 [(4, .int (nI i)), (0, .ref b), (1, .ref (0 + s.heap.size)), (2, .ref (230 + s.heap.size)), (3, .ref (262 + s.heap.size))])
    (kk : ∀ (h9 : ag_H) (v9 : Int64) (H1 : Heap) (lc : List Loc) (ls : Array Slot), Cm (n + 1) h9 → LH D cJ s h9 H1 v9 lc → lv_has ls 7 [(4, .int (nI i)), (0, .ref b), (1, .ref (0 + s.heap.size)), (2, .ref (230 + s.heap.size)), (3, .ref (262 + s.heap.size))] → W p l e room_1 s m #[Value.ref b] below meth c H1 lc h9.1 h9.2.1 Q (F0 m 1126 ls [])) : W p l e room_1 s m #[Value.ref b] below meth c H locs h.1 h.2.1 Q (F0 m 120 ls []) := by
  have X0 := X
  obtain ⟨htr, hx, hb, hr, hml, hown, hts, hX, hbl, hlk, hW, hJ, hnc, hL⟩ := X
  obtain ⟨fs1, k1⟩ := hC.k1
  obtain ⟨cv, hc, ec⟩ := i2c_ok (xs (i + 1))
  obtain ⟨oc, h1, bv, h2, t, ⟨fs2, k2⟩, e1, e2, e3, C2, sp⟩ := st_type (d := 5) hC hc
  have b2 := C2.bd hn
  have m1 : h.1 ≤ h1.1 ∧ h.2.1 ≤ h1.2.1 := m_run gT _ _ _ _ _ e1
  have m2 : h1.1 ≤ h2.1 ∧ h1.2.1 ≤ h2.2.1 := m_run gT _ _ _ _ _ e2
  have hM := w_type htr (D := D) (A := lA s.heap.size) (B := lB s.heap.size) (fun q hq => hq.1) (cJ := cJ) (o := 262 + s.heap.size) (Nat.le_add_left _ _) (fun h9 => h9.2 rfl) (v0 := v0) (sh_run (o := s.heap.size) (As := [nI cv]) e1) (by rw [sH_at, k1]; rfl) (lk_ho sp)
  refine lv_aload_n hx hb dl_120 rfl (lv_at hl 2 rfl) ?_
  refine lk_ld (k := 1) X0 hH.2.2.2 dl_121 dl_122 dl_124 dl_125 dl_126 (by decide) (by omega) (lv_at hl 1 rfl) (lv_at hl 0 rfl) ?_
  refine lv_i2c hx hb dl_127 ec ?_
  refine lv_aload_n hx hb dl_128 rfl (lv_at hl 4 rfl) ?_
  refine lk_wrap (maxL := 4) (n := 3) X0 hH hM (vx_cwSW 3 hts (lGood sW_type) rfl rfl rfl ⟨by decide, by decide, by decide +kernel⟩ ⟨Nat.le_of_ble_eq_true rfl, Nat.le_of_ble_eq_true rfl⟩) rfl m1.1 m1.2 (by omega) (by omega) hl.1 dl_129 rfl (fun k v1 H1 lc hH1 hs1 => ?_)
  refine lv_istore (lv' := [(5, .int (nI k)), (4, .int (nI i)), (0, .ref b), (1, .ref (0 + s.heap.size)), (2, .ref (230 + s.heap.size)), (3, .ref (262 + s.heap.size))]) hx hb dl_132 hl (by decide) rfl (fun ls hl => ?_)
  refine lv_aload_n hx hb dl_134 rfl (lv_at hl 4 rfl) ?_
  refine lk_ld (k := 1) X0 hH1.2.2.2 dl_135 dl_136 dl_138 dl_139 dl_140 (by decide) (by omega) (lv_at hl 2 rfl) (lv_at hl 1 rfl) ?_
  refine lv_i2c hx hb dl_141 ec ?_
  refine lk_run (As := [nI cv]) (a := 230) (rest := []) X0 hH1 e2 k2 (by decide) (show (135, 1) ∈ lNs by decide) (by decide) (by decide) (by decide) b2.1 b2.2 (by decide) hl.1 dl_142 rfl (fun H2 lc2 hH2 => ?_)
  obtain ⟨fs3, k3⟩ := C2.k2
  exact lk_tail (k := k) (t := t) (t0 := 145) X0 hH2 k3 e3 (lk_sp (by decide) hs1 sp) b2.1 b2.2 dl_145 dl_147 dl_148 dl_151 dl_153 dl_158 dl_160 dl_163 dl_164 dl_165 dl_166 dl_168 dl_169 dl_170 dl_175 (by decide) hl (fun H3 lc3 ls3 hH3 hl3 => kk h2 v1 H3 lc3 ls3 C2 hH3 hl3)
theorem case_keep (X : LX p l s m meth c b L xs D cJ) (hH : LH D cJ s h H v0 locs) (hC : Cm n h) (hn : n < 512) (hL4 : i + 3 < L) (hl : lv_has ls 7 [(4, .int (nI i)), (0, .ref b), (1, .ref (0 + s.heap.size)), (2, .ref (230 + s.heap.size)), (3, .ref (262 + s.heap.size))])
    (kk : ∀ (h9 : ag_H) (v9 : Int64) (H1 : Heap) (lc : List Loc) (ls : Array Slot), Cm (n + 1) h9 → LH D cJ s h9 H1 v9 lc → lv_has ls 7 [(4, .int (nI i)), (0, .ref b), (1, .ref (0 + s.heap.size)), (2, .ref (230 + s.heap.size)), (3, .ref (262 + s.heap.size))] → W p l e room_1 s m #[Value.ref b] below meth c H1 lc h9.1 h9.2.1 Q (F0 m 1126 ls [])) : W p l e room_1 s m #[Value.ref b] below meth c H locs h.1 h.2.1 Q (F0 m 178 ls []) := by
  have X0 := X
  obtain ⟨htr, hx, hb, hr, hml, hown, hts, hX, hbl, hlk, hW, hJ, hnc, hL⟩ := X
  obtain ⟨fs1, k1⟩ := hC.k1
  obtain ⟨h1, bv, h2, ⟨fs2, k2⟩, e1, e2, C2⟩ := st_keep (d := 5) hC
  have b2 := C2.bd hn
  have m1 : h.1 ≤ h1.1 ∧ h.2.1 ≤ h1.2.1 := m_run gT _ _ _ _ _ e1
  have m2 : h1.1 ≤ h2.1 ∧ h1.2.1 ≤ h2.2.1 := m_run gT _ _ _ _ _ e2
  refine lv_aload_n hx hb dl_178 rfl (lv_at hl 2 rfl) ?_
  refine lk_run (As := []) (a := 0) (rest := []) X0 hH e1 k1 (by decide) (show (64, 0) ∈ lNs by decide) (by decide) (by decide) (by decide) (by omega) (by omega) (by decide) hl.1 dl_179 rfl (fun H1 lc hH1 => ?_)
  refine lv_aload_n hx hb dl_182 rfl (lv_at hl 3 rfl) ?_
  refine lk_run (As := []) (a := 230) (rest := [.int bv]) X0 hH1 e2 k2 (by decide) (show (136, 0) ∈ lNs by decide) (by decide) (by decide) (by decide) b2.1 b2.2 (Nat.le_of_ble_eq_true rfl) hl.1 dl_183 rfl (fun H2 lc2 hH2 => ?_)
  exact lv_icmp_eq (tgt := 1126) hx hb dl_186 (by decide) (fun _ => kk h2 v0 H2 lc2 ls C2 hH2 hl) (fun e9 => absurd rfl e9)
theorem case_open (X : LX p l s m meth c b L xs D cJ) (hH : LH D cJ s h H v0 locs) (hC : Cm n h) (hn : n < 512) (hL4 : i + 3 < L) (hl : lv_has ls 7 [(4, .int (nI i)), (0, .ref b), (1, .ref (0 + s.heap.size)), (2, .ref (230 + s.heap.size)), (3, .ref (262 + s.heap.size))])
    (kk : ∀ (h9 : ag_H) (v9 : Int64) (H1 : Heap) (lc : List Loc) (ls : Array Slot), Cm (n + 1) h9 → LH D cJ s h9 H1 v9 lc → lv_has ls 7 [(4, .int (nI i)), (0, .ref b), (1, .ref (0 + s.heap.size)), (2, .ref (230 + s.heap.size)), (3, .ref (262 + s.heap.size))] → W p l e room_1 s m #[Value.ref b] below meth c H1 lc h9.1 h9.2.1 Q (F0 m 1126 ls [])) : W p l e room_1 s m #[Value.ref b] below meth c H locs h.1 h.2.1 Q (F0 m 191 ls []) := by
  have X0 := X
  obtain ⟨htr, hx, hb, hr, hml, hown, hts, hX, hbl, hlk, hW, hJ, hnc, hL⟩ := X
  obtain ⟨fs1, k1⟩ := hC.k1
  obtain ⟨oc, h1, bv, h2, t, ⟨fs2, k2⟩, e1, e2, e3, C2, sp⟩ := st_open (d := 5) hC (xs (i + 1)) (xs (i + 2))
  have b2 := C2.bd hn
  have m1 : h.1 ≤ h1.1 ∧ h.2.1 ≤ h1.2.1 := m_run gT _ _ _ _ _ e1
  have m2 : h1.1 ≤ h2.1 ∧ h1.2.1 ≤ h2.2.1 := m_run gT _ _ _ _ _ e2
  have hM := w_open htr (D := D) (A := lA s.heap.size) (B := lB s.heap.size) (fun q hq => hq.1) (cJ := cJ) (o := 262 + s.heap.size) (Nat.le_add_left _ _) (fun h9 => h9.2 rfl) (v0 := v0) (sh_run (o := s.heap.size) (As := [xs (i + 1), xs (i + 2)]) e1) (by rw [sH_at, k1]; rfl) (lk_ho sp)
  refine lv_aload_n hx hb dl_191 rfl (lv_at hl 2 rfl) ?_
  refine lk_ld (k := 1) X0 hH.2.2.2 dl_192 dl_193 dl_195 dl_196 dl_197 (by decide) (by omega) (lv_at hl 1 rfl) (lv_at hl 0 rfl) ?_
  refine lk_ld (k := 2) X0 hH.2.2.2 dl_198 dl_199 dl_201 dl_202 dl_203 (by decide) (by omega) (lv_at hl 1 rfl) (lv_at hl 0 rfl) ?_
  refine lv_aload_n hx hb dl_204 rfl (lv_at hl 4 rfl) ?_
  refine lk_wrap (maxL := 5) (n := 4) X0 hH hM (vx_cwSW 4 hts (lGood sW_open) rfl rfl rfl ⟨by decide, by decide, by decide +kernel⟩ ⟨Nat.le_of_ble_eq_true rfl, Nat.le_of_ble_eq_true rfl⟩) rfl m1.1 m1.2 (by omega) (by omega) hl.1 dl_205 rfl (fun k v1 H1 lc hH1 hs1 => ?_)
  refine lv_istore (lv' := [(5, .int (nI k)), (4, .int (nI i)), (0, .ref b), (1, .ref (0 + s.heap.size)), (2, .ref (230 + s.heap.size)), (3, .ref (262 + s.heap.size))]) hx hb dl_208 hl (by decide) rfl (fun ls hl => ?_)
  refine lv_aload_n hx hb dl_210 rfl (lv_at hl 4 rfl) ?_
  refine lk_ld (k := 1) X0 hH1.2.2.2 dl_211 dl_212 dl_214 dl_215 dl_216 (by decide) (by omega) (lv_at hl 2 rfl) (lv_at hl 1 rfl) ?_
  refine lk_ld (k := 2) X0 hH1.2.2.2 dl_217 dl_218 dl_220 dl_221 dl_222 (by decide) (by omega) (lv_at hl 2 rfl) (lv_at hl 1 rfl) ?_
  refine lk_run (As := [xs (i + 1), xs (i + 2)]) (a := 230) (rest := []) X0 hH1 e2 k2 (by decide) (show (151, 2) ∈ lNs by decide) (by decide) (by decide) (by decide) b2.1 b2.2 (by decide) hl.1 dl_223 rfl (fun H2 lc2 hH2 => ?_)
  obtain ⟨fs3, k3⟩ := C2.k2
  exact lk_tail (k := k) (t := t) (t0 := 226) X0 hH2 k3 e3 (lk_sp (by decide) hs1 sp) b2.1 b2.2 dl_226 dl_228 dl_229 dl_232 dl_234 dl_239 dl_241 dl_244 dl_245 dl_246 dl_247 dl_249 dl_250 dl_251 dl_256 (by decide) hl (fun H3 lc3 ls3 hH3 hl3 => kk h2 v1 H3 lc3 ls3 C2 hH3 hl3)
theorem case_create (X : LX p l s m meth c b L xs D cJ) (hH : LH D cJ s h H v0 locs) (hC : Cm n h) (hn : n < 512) (hL4 : i + 3 < L) (hl : lv_has ls 7 [(4, .int (nI i)), (0, .ref b), (1, .ref (0 + s.heap.size)), (2, .ref (230 + s.heap.size)), (3, .ref (262 + s.heap.size))])
    (kk : ∀ (h9 : ag_H) (v9 : Int64) (H1 : Heap) (lc : List Loc) (ls : Array Slot), Cm (n + 1) h9 → LH D cJ s h9 H1 v9 lc → lv_has ls 7 [(4, .int (nI i)), (0, .ref b), (1, .ref (0 + s.heap.size)), (2, .ref (230 + s.heap.size)), (3, .ref (262 + s.heap.size))] → W p l e room_1 s m #[Value.ref b] below meth c H1 lc h9.1 h9.2.1 Q (F0 m 1126 ls [])) : W p l e room_1 s m #[Value.ref b] below meth c H locs h.1 h.2.1 Q (F0 m 259 ls []) := by
  have X0 := X
  obtain ⟨htr, hx, hb, hr, hml, hown, hts, hX, hbl, hlk, hW, hJ, hnc, hL⟩ := X
  obtain ⟨fs1, k1⟩ := hC.k1
  obtain ⟨oc, h1, bv, h2, t, ⟨fs2, k2⟩, e1, e2, e3, C2, sp⟩ := st_create (d := 5) hC hn (xs (i + 1)) (decide (xs (i + 2) ≠ 0))
  have b2 := C2.bd hn
  have m1 : h.1 ≤ h1.1 ∧ h.2.1 ≤ h1.2.1 := m_run gT _ _ _ _ _ e1
  have m2 : h1.1 ≤ h2.1 ∧ h1.2.1 ≤ h2.2.1 := m_run gT _ _ _ _ _ e2
  have hM := w_create htr (D := D) (A := lA s.heap.size) (B := lB s.heap.size) (fun q hq => hq.1) (cJ := cJ) (o := 262 + s.heap.size) (Nat.le_add_left _ _) (fun h9 => h9.2 rfl) (v0 := v0) (sh_run (o := s.heap.size) (As := [xs (i + 1), bI (decide (xs (i + 2) ≠ 0))]) e1) (by rw [sH_at, k1]; rfl) (lk_ho sp)
  refine lv_aload_n hx hb dl_259 rfl (lv_at hl 2 rfl) ?_
  refine lk_ld (k := 1) X0 hH.2.2.2 dl_260 dl_261 dl_263 dl_264 dl_265 (by decide) (by omega) (lv_at hl 1 rfl) (lv_at hl 0 rfl) ?_
  refine lk_ld (k := 2) X0 hH.2.2.2 dl_266 dl_267 dl_269 dl_270 dl_271 (by decide) (by omega) (lv_at hl 1 rfl) (lv_at hl 0 rfl) ?_
  refine lk_bl X0 dl_272 dl_275 dl_276 dl_279 ?_
  refine lv_aload_n hx hb dl_280 rfl (lv_at hl 4 rfl) ?_
  refine lk_wrap (maxL := 5) (n := 4) X0 hH hM (vx_cwSW 4 hts (lGood sW_create) rfl rfl rfl ⟨by decide, by decide, by decide +kernel⟩ ⟨Nat.le_of_ble_eq_true rfl, Nat.le_of_ble_eq_true rfl⟩) rfl m1.1 m1.2 (by omega) (by omega) hl.1 dl_281 rfl (fun k v1 H1 lc hH1 hs1 => ?_)
  refine lv_istore (lv' := [(5, .int (nI k)), (4, .int (nI i)), (0, .ref b), (1, .ref (0 + s.heap.size)), (2, .ref (230 + s.heap.size)), (3, .ref (262 + s.heap.size))]) hx hb dl_284 hl (by decide) rfl (fun ls hl => ?_)
  refine lv_aload_n hx hb dl_286 rfl (lv_at hl 4 rfl) ?_
  refine lk_ld (k := 1) X0 hH1.2.2.2 dl_287 dl_288 dl_290 dl_291 dl_292 (by decide) (by omega) (lv_at hl 2 rfl) (lv_at hl 1 rfl) ?_
  refine lk_ld (k := 2) X0 hH1.2.2.2 dl_293 dl_294 dl_296 dl_297 dl_298 (by decide) (by omega) (lv_at hl 2 rfl) (lv_at hl 1 rfl) ?_
  refine lk_bl X0 dl_299 dl_302 dl_303 dl_306 ?_
  refine lk_run (As := [xs (i + 1), bI (decide (xs (i + 2) ≠ 0))]) (a := 230) (rest := []) X0 hH1 e2 k2 (by decide) (show (153, 2) ∈ lNs by decide) (by decide) (by decide) (by decide) b2.1 b2.2 (by decide) hl.1 dl_307 rfl (fun H2 lc2 hH2 => ?_)
  obtain ⟨fs3, k3⟩ := C2.k2
  exact lk_tail (k := k) (t := t) (t0 := 310) X0 hH2 k3 e3 (lk_sp (by decide) hs1 sp) b2.1 b2.2 dl_310 dl_312 dl_313 dl_316 dl_318 dl_323 dl_325 dl_328 dl_329 dl_330 dl_331 dl_333 dl_334 dl_335 dl_340 (by decide) hl (fun H3 lc3 ls3 hH3 hl3 => kk h2 v1 H3 lc3 ls3 C2 hH3 hl3)
theorem case_read (X : LX p l s m meth c b L xs D cJ) (hH : LH D cJ s h H v0 locs) (hC : Cm n h) (hn : n < 512) (hL4 : i + 3 < L) (hl : lv_has ls 7 [(4, .int (nI i)), (0, .ref b), (1, .ref (0 + s.heap.size)), (2, .ref (230 + s.heap.size)), (3, .ref (262 + s.heap.size))])
    (kk : ∀ (h9 : ag_H) (v9 : Int64) (H1 : Heap) (lc : List Loc) (ls : Array Slot), Cm (n + 1) h9 → LH D cJ s h9 H1 v9 lc → lv_has ls 7 [(4, .int (nI i)), (0, .ref b), (1, .ref (0 + s.heap.size)), (2, .ref (230 + s.heap.size)), (3, .ref (262 + s.heap.size))] → W p l e room_1 s m #[Value.ref b] below meth c H1 lc h9.1 h9.2.1 Q (F0 m 1126 ls [])) : W p l e room_1 s m #[Value.ref b] below meth c H locs h.1 h.2.1 Q (F0 m 343 ls []) := by
  have X0 := X
  obtain ⟨htr, hx, hb, hr, hml, hown, hts, hX, hbl, hlk, hW, hJ, hnc, hL⟩ := X
  obtain ⟨fs1, k1⟩ := hC.k1
  obtain ⟨oc, h1, bv, h2, t, ⟨fs2, k2⟩, e1, e2, e3, C2, sp⟩ := st_read (d := 5) hC (xs (i + 1)) (xs (i + 2))
  have b2 := C2.bd hn
  have m1 : h.1 ≤ h1.1 ∧ h.2.1 ≤ h1.2.1 := m_run gT _ _ _ _ _ e1
  have m2 : h1.1 ≤ h2.1 ∧ h1.2.1 ≤ h2.2.1 := m_run gT _ _ _ _ _ e2
  have hM := w_read htr (D := D) (A := lA s.heap.size) (B := lB s.heap.size) (fun q hq => hq.1) (cJ := cJ) (o := 262 + s.heap.size) (Nat.le_add_left _ _) (fun h9 => h9.2 rfl) (v0 := v0) (sh_run (o := s.heap.size) (As := [xs (i + 1), xs (i + 2)]) e1) (by rw [sH_at, k1]; rfl) (lk_ho sp)
  refine lv_aload_n hx hb dl_343 rfl (lv_at hl 2 rfl) ?_
  refine lk_ld (k := 1) X0 hH.2.2.2 dl_344 dl_345 dl_347 dl_348 dl_349 (by decide) (by omega) (lv_at hl 1 rfl) (lv_at hl 0 rfl) ?_
  refine lk_ld (k := 2) X0 hH.2.2.2 dl_350 dl_351 dl_353 dl_354 dl_355 (by decide) (by omega) (lv_at hl 1 rfl) (lv_at hl 0 rfl) ?_
  refine lv_aload_n hx hb dl_356 rfl (lv_at hl 4 rfl) ?_
  refine lk_wrap (maxL := 5) (n := 4) X0 hH hM (vx_cwSW 4 hts (lGood sW_read) rfl rfl rfl ⟨by decide, by decide, by decide +kernel⟩ ⟨Nat.le_of_ble_eq_true rfl, Nat.le_of_ble_eq_true rfl⟩) rfl m1.1 m1.2 (by omega) (by omega) hl.1 dl_357 rfl (fun k v1 H1 lc hH1 hs1 => ?_)
  refine lv_istore (lv' := [(5, .int (nI k)), (4, .int (nI i)), (0, .ref b), (1, .ref (0 + s.heap.size)), (2, .ref (230 + s.heap.size)), (3, .ref (262 + s.heap.size))]) hx hb dl_360 hl (by decide) rfl (fun ls hl => ?_)
  refine lv_aload_n hx hb dl_362 rfl (lv_at hl 4 rfl) ?_
  refine lk_ld (k := 1) X0 hH1.2.2.2 dl_363 dl_364 dl_366 dl_367 dl_368 (by decide) (by omega) (lv_at hl 2 rfl) (lv_at hl 1 rfl) ?_
  refine lk_ld (k := 2) X0 hH1.2.2.2 dl_369 dl_370 dl_372 dl_373 dl_374 (by decide) (by omega) (lv_at hl 2 rfl) (lv_at hl 1 rfl) ?_
  refine lk_run (As := [xs (i + 1), xs (i + 2)]) (a := 230) (rest := []) X0 hH1 e2 k2 (by decide) (show (154, 2) ∈ lNs by decide) (by decide) (by decide) (by decide) b2.1 b2.2 (by decide) hl.1 dl_375 rfl (fun H2 lc2 hH2 => ?_)
  obtain ⟨fs3, k3⟩ := C2.k2
  exact lk_tail (k := k) (t := t) (t0 := 378) X0 hH2 k3 e3 (lk_sp (by decide) hs1 sp) b2.1 b2.2 dl_378 dl_380 dl_381 dl_384 dl_386 dl_391 dl_393 dl_396 dl_397 dl_398 dl_399 dl_401 dl_402 dl_403 dl_408 (by decide) hl (fun H3 lc3 ls3 hH3 hl3 => kk h2 v1 H3 lc3 ls3 C2 hH3 hl3)
theorem case_write (X : LX p l s m meth c b L xs D cJ) (hH : LH D cJ s h H v0 locs) (hC : Cm n h) (hn : n < 512) (hL4 : i + 3 < L) (hl : lv_has ls 7 [(4, .int (nI i)), (0, .ref b), (1, .ref (0 + s.heap.size)), (2, .ref (230 + s.heap.size)), (3, .ref (262 + s.heap.size))])
    (kk : ∀ (h9 : ag_H) (v9 : Int64) (H1 : Heap) (lc : List Loc) (ls : Array Slot), Cm (n + 1) h9 → LH D cJ s h9 H1 v9 lc → lv_has ls 7 [(4, .int (nI i)), (0, .ref b), (1, .ref (0 + s.heap.size)), (2, .ref (230 + s.heap.size)), (3, .ref (262 + s.heap.size))] → W p l e room_1 s m #[Value.ref b] below meth c H1 lc h9.1 h9.2.1 Q (F0 m 1126 ls [])) : W p l e room_1 s m #[Value.ref b] below meth c H locs h.1 h.2.1 Q (F0 m 411 ls []) := by
  have X0 := X
  obtain ⟨htr, hx, hb, hr, hml, hown, hts, hX, hbl, hlk, hW, hJ, hnc, hL⟩ := X
  obtain ⟨fs1, k1⟩ := hC.k1
  obtain ⟨oc, h1, bv, h2, t, ⟨fs2, k2⟩, e1, e2, e3, C2, sp⟩ := st_write (d := 5) hC (xs (i + 1)) (xs (i + 2)) (xs (i + 3))
  have b2 := C2.bd hn
  have m1 : h.1 ≤ h1.1 ∧ h.2.1 ≤ h1.2.1 := m_run gT _ _ _ _ _ e1
  have m2 : h1.1 ≤ h2.1 ∧ h1.2.1 ≤ h2.2.1 := m_run gT _ _ _ _ _ e2
  have hM := w_write htr (D := D) (A := lA s.heap.size) (B := lB s.heap.size) (fun q hq => hq.1) (cJ := cJ) (o := 262 + s.heap.size) (Nat.le_add_left _ _) (fun h9 => h9.2 rfl) (v0 := v0) (sh_run (o := s.heap.size) (As := [xs (i + 1), xs (i + 2), xs (i + 3)]) e1) (by rw [sH_at, k1]; rfl) (lk_ho sp)
  refine lv_aload_n hx hb dl_411 rfl (lv_at hl 2 rfl) ?_
  refine lk_ld (k := 1) X0 hH.2.2.2 dl_412 dl_413 dl_415 dl_416 dl_417 (by decide) (by omega) (lv_at hl 1 rfl) (lv_at hl 0 rfl) ?_
  refine lk_ld (k := 2) X0 hH.2.2.2 dl_418 dl_419 dl_421 dl_422 dl_423 (by decide) (by omega) (lv_at hl 1 rfl) (lv_at hl 0 rfl) ?_
  refine lk_ld (k := 3) X0 hH.2.2.2 dl_424 dl_425 dl_427 dl_428 dl_429 (by decide) (by omega) (lv_at hl 1 rfl) (lv_at hl 0 rfl) ?_
  refine lv_aload_n hx hb dl_430 rfl (lv_at hl 4 rfl) ?_
  refine lk_wrap (maxL := 6) (n := 5) X0 hH hM (vx_cwSW 5 hts (lGood sW_write) rfl rfl rfl ⟨by decide, by decide, by decide +kernel⟩ ⟨Nat.le_of_ble_eq_true rfl, Nat.le_of_ble_eq_true rfl⟩) rfl m1.1 m1.2 (by omega) (by omega) hl.1 dl_431 rfl (fun k v1 H1 lc hH1 hs1 => ?_)
  refine lv_istore (lv' := [(5, .int (nI k)), (4, .int (nI i)), (0, .ref b), (1, .ref (0 + s.heap.size)), (2, .ref (230 + s.heap.size)), (3, .ref (262 + s.heap.size))]) hx hb dl_434 hl (by decide) rfl (fun ls hl => ?_)
  refine lv_aload_n hx hb dl_436 rfl (lv_at hl 4 rfl) ?_
  refine lk_ld (k := 1) X0 hH1.2.2.2 dl_437 dl_438 dl_440 dl_441 dl_442 (by decide) (by omega) (lv_at hl 2 rfl) (lv_at hl 1 rfl) ?_
  refine lk_ld (k := 2) X0 hH1.2.2.2 dl_443 dl_444 dl_446 dl_447 dl_448 (by decide) (by omega) (lv_at hl 2 rfl) (lv_at hl 1 rfl) ?_
  refine lk_ld (k := 3) X0 hH1.2.2.2 dl_449 dl_450 dl_452 dl_453 dl_454 (by decide) (by omega) (lv_at hl 2 rfl) (lv_at hl 1 rfl) ?_
  refine lk_run (As := [xs (i + 1), xs (i + 2), xs (i + 3)]) (a := 230) (rest := []) X0 hH1 e2 k2 (by decide) (show (155, 3) ∈ lNs by decide) (by decide) (by decide) (by decide) b2.1 b2.2 (by decide) hl.1 dl_455 rfl (fun H2 lc2 hH2 => ?_)
  obtain ⟨fs3, k3⟩ := C2.k2
  exact lk_tail (k := k) (t := t) (t0 := 458) X0 hH2 k3 e3 (lk_sp (by decide) hs1 sp) b2.1 b2.2 dl_458 dl_460 dl_461 dl_464 dl_466 dl_471 dl_473 dl_476 dl_477 dl_478 dl_479 dl_481 dl_482 dl_483 dl_488 (by decide) hl (fun H3 lc3 ls3 hH3 hl3 => kk h2 v1 H3 lc3 ls3 C2 hH3 hl3)
theorem case_close (X : LX p l s m meth c b L xs D cJ) (hH : LH D cJ s h H v0 locs) (hC : Cm n h) (hn : n < 512) (hL4 : i + 3 < L) (hl : lv_has ls 7 [(4, .int (nI i)), (0, .ref b), (1, .ref (0 + s.heap.size)), (2, .ref (230 + s.heap.size)), (3, .ref (262 + s.heap.size))])
    (kk : ∀ (h9 : ag_H) (v9 : Int64) (H1 : Heap) (lc : List Loc) (ls : Array Slot), Cm (n + 1) h9 → LH D cJ s h9 H1 v9 lc → lv_has ls 7 [(4, .int (nI i)), (0, .ref b), (1, .ref (0 + s.heap.size)), (2, .ref (230 + s.heap.size)), (3, .ref (262 + s.heap.size))] → W p l e room_1 s m #[Value.ref b] below meth c H1 lc h9.1 h9.2.1 Q (F0 m 1126 ls [])) : W p l e room_1 s m #[Value.ref b] below meth c H locs h.1 h.2.1 Q (F0 m 491 ls []) := by
  have X0 := X
  obtain ⟨htr, hx, hb, hr, hml, hown, hts, hX, hbl, hlk, hW, hJ, hnc, hL⟩ := X
  obtain ⟨fs1, k1⟩ := hC.k1
  obtain ⟨oc, h1, bv, h2, t, ⟨fs2, k2⟩, e1, e2, e3, C2, sp⟩ := st_close (d := 5) hC (xs (i + 1)) (xs (i + 2))
  have b2 := C2.bd hn
  have m1 : h.1 ≤ h1.1 ∧ h.2.1 ≤ h1.2.1 := m_run gT _ _ _ _ _ e1
  have m2 : h1.1 ≤ h2.1 ∧ h1.2.1 ≤ h2.2.1 := m_run gT _ _ _ _ _ e2
  have hM := w_close htr (D := D) (A := lA s.heap.size) (B := lB s.heap.size) (fun q hq => hq.1) (cJ := cJ) (o := 262 + s.heap.size) (Nat.le_add_left _ _) (fun h9 => h9.2 rfl) (v0 := v0) (sh_run (o := s.heap.size) (As := [xs (i + 1), xs (i + 2)]) e1) (by rw [sH_at, k1]; rfl) (lk_ho sp)
  refine lv_aload_n hx hb dl_491 rfl (lv_at hl 2 rfl) ?_
  refine lk_ld (k := 1) X0 hH.2.2.2 dl_492 dl_493 dl_495 dl_496 dl_497 (by decide) (by omega) (lv_at hl 1 rfl) (lv_at hl 0 rfl) ?_
  refine lk_ld (k := 2) X0 hH.2.2.2 dl_498 dl_499 dl_501 dl_502 dl_503 (by decide) (by omega) (lv_at hl 1 rfl) (lv_at hl 0 rfl) ?_
  refine lv_aload_n hx hb dl_504 rfl (lv_at hl 4 rfl) ?_
  refine lk_wrap (maxL := 5) (n := 4) X0 hH hM (vx_cwSW 4 hts (lGood sW_close) rfl rfl rfl ⟨by decide, by decide, by decide +kernel⟩ ⟨Nat.le_of_ble_eq_true rfl, Nat.le_of_ble_eq_true rfl⟩) rfl m1.1 m1.2 (by omega) (by omega) hl.1 dl_505 rfl (fun k v1 H1 lc hH1 hs1 => ?_)
  refine lv_istore (lv' := [(5, .int (nI k)), (4, .int (nI i)), (0, .ref b), (1, .ref (0 + s.heap.size)), (2, .ref (230 + s.heap.size)), (3, .ref (262 + s.heap.size))]) hx hb dl_508 hl (by decide) rfl (fun ls hl => ?_)
  refine lv_aload_n hx hb dl_510 rfl (lv_at hl 4 rfl) ?_
  refine lk_ld (k := 1) X0 hH1.2.2.2 dl_511 dl_512 dl_514 dl_515 dl_516 (by decide) (by omega) (lv_at hl 2 rfl) (lv_at hl 1 rfl) ?_
  refine lk_ld (k := 2) X0 hH1.2.2.2 dl_517 dl_518 dl_520 dl_521 dl_522 (by decide) (by omega) (lv_at hl 2 rfl) (lv_at hl 1 rfl) ?_
  refine lk_run (As := [xs (i + 1), xs (i + 2)]) (a := 230) (rest := []) X0 hH1 e2 k2 (by decide) (show (157, 2) ∈ lNs by decide) (by decide) (by decide) (by decide) b2.1 b2.2 (by decide) hl.1 dl_523 rfl (fun H2 lc2 hH2 => ?_)
  obtain ⟨fs3, k3⟩ := C2.k2
  exact lk_tail (k := k) (t := t) (t0 := 526) X0 hH2 k3 e3 (lk_sp (by decide) hs1 sp) b2.1 b2.2 dl_526 dl_528 dl_529 dl_532 dl_534 dl_539 dl_541 dl_544 dl_545 dl_546 dl_547 dl_549 dl_550 dl_551 dl_556 (by decide) hl (fun H3 lc3 ls3 hH3 hl3 => kk h2 v1 H3 lc3 ls3 C2 hH3 hl3)
theorem case_remove (X : LX p l s m meth c b L xs D cJ) (hH : LH D cJ s h H v0 locs) (hC : Cm n h) (hn : n < 512) (hL4 : i + 3 < L) (hl : lv_has ls 7 [(4, .int (nI i)), (0, .ref b), (1, .ref (0 + s.heap.size)), (2, .ref (230 + s.heap.size)), (3, .ref (262 + s.heap.size))])
    (kk : ∀ (h9 : ag_H) (v9 : Int64) (H1 : Heap) (lc : List Loc) (ls : Array Slot), Cm (n + 1) h9 → LH D cJ s h9 H1 v9 lc → lv_has ls 7 [(4, .int (nI i)), (0, .ref b), (1, .ref (0 + s.heap.size)), (2, .ref (230 + s.heap.size)), (3, .ref (262 + s.heap.size))] → W p l e room_1 s m #[Value.ref b] below meth c H1 lc h9.1 h9.2.1 Q (F0 m 1126 ls [])) : W p l e room_1 s m #[Value.ref b] below meth c H locs h.1 h.2.1 Q (F0 m 559 ls []) := by
  have X0 := X
  obtain ⟨htr, hx, hb, hr, hml, hown, hts, hX, hbl, hlk, hW, hJ, hnc, hL⟩ := X
  obtain ⟨fs1, k1⟩ := hC.k1
  obtain ⟨oc, h1, bv, h2, t, ⟨fs2, k2⟩, e1, e2, e3, C2, sp⟩ := st_remove (d := 5) hC (xs (i + 1))
  have b2 := C2.bd hn
  have m1 : h.1 ≤ h1.1 ∧ h.2.1 ≤ h1.2.1 := m_run gT _ _ _ _ _ e1
  have m2 : h1.1 ≤ h2.1 ∧ h1.2.1 ≤ h2.2.1 := m_run gT _ _ _ _ _ e2
  have hM := w_remove htr (D := D) (A := lA s.heap.size) (B := lB s.heap.size) (fun q hq => hq.1) (cJ := cJ) (o := 262 + s.heap.size) (Nat.le_add_left _ _) (fun h9 => h9.2 rfl) (v0 := v0) (sh_run (o := s.heap.size) (As := [xs (i + 1)]) e1) (by rw [sH_at, k1]; rfl) (lk_ho sp)
  refine lv_aload_n hx hb dl_559 rfl (lv_at hl 2 rfl) ?_
  refine lk_ld (k := 1) X0 hH.2.2.2 dl_560 dl_561 dl_563 dl_564 dl_565 (by decide) (by omega) (lv_at hl 1 rfl) (lv_at hl 0 rfl) ?_
  refine lv_aload_n hx hb dl_566 rfl (lv_at hl 4 rfl) ?_
  refine lk_wrap (maxL := 4) (n := 3) X0 hH hM (vx_cwSW 3 hts (lGood sW_remove) rfl rfl rfl ⟨by decide, by decide, by decide +kernel⟩ ⟨Nat.le_of_ble_eq_true rfl, Nat.le_of_ble_eq_true rfl⟩) rfl m1.1 m1.2 (by omega) (by omega) hl.1 dl_567 rfl (fun k v1 H1 lc hH1 hs1 => ?_)
  refine lv_istore (lv' := [(5, .int (nI k)), (4, .int (nI i)), (0, .ref b), (1, .ref (0 + s.heap.size)), (2, .ref (230 + s.heap.size)), (3, .ref (262 + s.heap.size))]) hx hb dl_570 hl (by decide) rfl (fun ls hl => ?_)
  refine lv_aload_n hx hb dl_572 rfl (lv_at hl 4 rfl) ?_
  refine lk_ld (k := 1) X0 hH1.2.2.2 dl_573 dl_574 dl_576 dl_577 dl_578 (by decide) (by omega) (lv_at hl 2 rfl) (lv_at hl 1 rfl) ?_
  refine lk_run (As := [xs (i + 1)]) (a := 230) (rest := []) X0 hH1 e2 k2 (by decide) (show (158, 1) ∈ lNs by decide) (by decide) (by decide) (by decide) b2.1 b2.2 (by decide) hl.1 dl_579 rfl (fun H2 lc2 hH2 => ?_)
  obtain ⟨fs3, k3⟩ := C2.k2
  exact lk_tail (k := k) (t := t) (t0 := 582) X0 hH2 k3 e3 (lk_sp (by decide) hs1 sp) b2.1 b2.2 dl_582 dl_584 dl_585 dl_588 dl_590 dl_595 dl_597 dl_600 dl_601 dl_602 dl_603 dl_605 dl_606 dl_607 dl_612 (by decide) hl (fun H3 lc3 ls3 hH3 hl3 => kk h2 v1 H3 lc3 ls3 C2 hH3 hl3)
theorem case_stat (X : LX p l s m meth c b L xs D cJ) (hH : LH D cJ s h H v0 locs) (hC : Cm n h) (hn : n < 512) (hL4 : i + 3 < L) (hl : lv_has ls 7 [(4, .int (nI i)), (0, .ref b), (1, .ref (0 + s.heap.size)), (2, .ref (230 + s.heap.size)), (3, .ref (262 + s.heap.size))])
    (kk : ∀ (h9 : ag_H) (v9 : Int64) (H1 : Heap) (lc : List Loc) (ls : Array Slot), Cm (n + 1) h9 → LH D cJ s h9 H1 v9 lc → lv_has ls 7 [(4, .int (nI i)), (0, .ref b), (1, .ref (0 + s.heap.size)), (2, .ref (230 + s.heap.size)), (3, .ref (262 + s.heap.size))] → W p l e room_1 s m #[Value.ref b] below meth c H1 lc h9.1 h9.2.1 Q (F0 m 1126 ls [])) : W p l e room_1 s m #[Value.ref b] below meth c H locs h.1 h.2.1 Q (F0 m 615 ls []) := by
  have X0 := X
  obtain ⟨htr, hx, hb, hr, hml, hown, hts, hX, hbl, hlk, hW, hJ, hnc, hL⟩ := X
  obtain ⟨fs1, k1⟩ := hC.k1
  obtain ⟨oc, h1, bv, h2, t, ⟨fs2, k2⟩, e1, e2, e3, C2, sp⟩ := st_stat (d := 5) hC (xs (i + 1))
  have b2 := C2.bd hn
  have m1 : h.1 ≤ h1.1 ∧ h.2.1 ≤ h1.2.1 := m_run gT _ _ _ _ _ e1
  have m2 : h1.1 ≤ h2.1 ∧ h1.2.1 ≤ h2.2.1 := m_run gT _ _ _ _ _ e2
  have hM := w_stat htr (D := D) (A := lA s.heap.size) (B := lB s.heap.size) (fun q hq => hq.1) (cJ := cJ) (o := 262 + s.heap.size) (Nat.le_add_left _ _) (fun h9 => h9.2 rfl) (v0 := v0) (sh_run (o := s.heap.size) (As := [xs (i + 1)]) e1) (by rw [sH_at, k1]; rfl) (lk_ho sp)
  refine lv_aload_n hx hb dl_615 rfl (lv_at hl 2 rfl) ?_
  refine lk_ld (k := 1) X0 hH.2.2.2 dl_616 dl_617 dl_619 dl_620 dl_621 (by decide) (by omega) (lv_at hl 1 rfl) (lv_at hl 0 rfl) ?_
  refine lv_aload_n hx hb dl_622 rfl (lv_at hl 4 rfl) ?_
  refine lk_wrap (maxL := 4) (n := 3) X0 hH hM (vx_cwSW 3 hts (lGood sW_stat) rfl rfl rfl ⟨by decide, by decide, by decide +kernel⟩ ⟨Nat.le_of_ble_eq_true rfl, Nat.le_of_ble_eq_true rfl⟩) rfl m1.1 m1.2 (by omega) (by omega) hl.1 dl_623 rfl (fun k v1 H1 lc hH1 hs1 => ?_)
  refine lv_istore (lv' := [(5, .int (nI k)), (4, .int (nI i)), (0, .ref b), (1, .ref (0 + s.heap.size)), (2, .ref (230 + s.heap.size)), (3, .ref (262 + s.heap.size))]) hx hb dl_626 hl (by decide) rfl (fun ls hl => ?_)
  refine lv_aload_n hx hb dl_628 rfl (lv_at hl 4 rfl) ?_
  refine lk_ld (k := 1) X0 hH1.2.2.2 dl_629 dl_630 dl_632 dl_633 dl_634 (by decide) (by omega) (lv_at hl 2 rfl) (lv_at hl 1 rfl) ?_
  refine lk_run (As := [xs (i + 1)]) (a := 230) (rest := []) X0 hH1 e2 k2 (by decide) (show (159, 1) ∈ lNs by decide) (by decide) (by decide) (by decide) b2.1 b2.2 (by decide) hl.1 dl_635 rfl (fun H2 lc2 hH2 => ?_)
  obtain ⟨fs3, k3⟩ := C2.k2
  exact lk_tail (k := k) (t := t) (t0 := 638) X0 hH2 k3 e3 (lk_sp (by decide) hs1 sp) b2.1 b2.2 dl_638 dl_640 dl_641 dl_644 dl_646 dl_651 dl_653 dl_656 dl_657 dl_658 dl_659 dl_661 dl_662 dl_663 dl_668 (by decide) hl (fun H3 lc3 ls3 hH3 hl3 => kk h2 v1 H3 lc3 ls3 C2 hH3 hl3)
theorem case_bind (X : LX p l s m meth c b L xs D cJ) (hH : LH D cJ s h H v0 locs) (hC : Cm n h) (hn : n < 512) (hL4 : i + 3 < L) (hl : lv_has ls 7 [(4, .int (nI i)), (0, .ref b), (1, .ref (0 + s.heap.size)), (2, .ref (230 + s.heap.size)), (3, .ref (262 + s.heap.size))])
    (kk : ∀ (h9 : ag_H) (v9 : Int64) (H1 : Heap) (lc : List Loc) (ls : Array Slot), Cm (n + 1) h9 → LH D cJ s h9 H1 v9 lc → lv_has ls 7 [(4, .int (nI i)), (0, .ref b), (1, .ref (0 + s.heap.size)), (2, .ref (230 + s.heap.size)), (3, .ref (262 + s.heap.size))] → W p l e room_1 s m #[Value.ref b] below meth c H1 lc h9.1 h9.2.1 Q (F0 m 1126 ls [])) : W p l e room_1 s m #[Value.ref b] below meth c H locs h.1 h.2.1 Q (F0 m 671 ls []) := by
  have X0 := X
  obtain ⟨htr, hx, hb, hr, hml, hown, hts, hX, hbl, hlk, hW, hJ, hnc, hL⟩ := X
  obtain ⟨fs1, k1⟩ := hC.k1
  obtain ⟨oc, h1, bv, h2, t, ⟨fs2, k2⟩, e1, e2, e3, C2, sp⟩ := st_bind (d := 5) hC (xs (i + 1)) (xs (i + 2))
  have b2 := C2.bd hn
  have m1 : h.1 ≤ h1.1 ∧ h.2.1 ≤ h1.2.1 := m_run gT _ _ _ _ _ e1
  have m2 : h1.1 ≤ h2.1 ∧ h1.2.1 ≤ h2.2.1 := m_run gT _ _ _ _ _ e2
  have hM := w_bind htr (D := D) (A := lA s.heap.size) (B := lB s.heap.size) (fun q hq => hq.1) (cJ := cJ) (o := 262 + s.heap.size) (Nat.le_add_left _ _) (fun h9 => h9.2 rfl) (v0 := v0) (sh_run (o := s.heap.size) (As := [xs (i + 1), xs (i + 2)]) e1) (by rw [sH_at, k1]; rfl) (lk_ho sp)
  refine lv_aload_n hx hb dl_671 rfl (lv_at hl 2 rfl) ?_
  refine lk_ld (k := 1) X0 hH.2.2.2 dl_672 dl_673 dl_675 dl_676 dl_677 (by decide) (by omega) (lv_at hl 1 rfl) (lv_at hl 0 rfl) ?_
  refine lk_ld (k := 2) X0 hH.2.2.2 dl_678 dl_679 dl_681 dl_682 dl_683 (by decide) (by omega) (lv_at hl 1 rfl) (lv_at hl 0 rfl) ?_
  refine lv_aload_n hx hb dl_684 rfl (lv_at hl 4 rfl) ?_
  refine lk_wrap (maxL := 5) (n := 4) X0 hH hM (vx_cwSW 4 hts (lGood sW_bind) rfl rfl rfl ⟨by decide, by decide, by decide +kernel⟩ ⟨Nat.le_of_ble_eq_true rfl, Nat.le_of_ble_eq_true rfl⟩) rfl m1.1 m1.2 (by omega) (by omega) hl.1 dl_685 rfl (fun k v1 H1 lc hH1 hs1 => ?_)
  refine lv_istore (lv' := [(5, .int (nI k)), (4, .int (nI i)), (0, .ref b), (1, .ref (0 + s.heap.size)), (2, .ref (230 + s.heap.size)), (3, .ref (262 + s.heap.size))]) hx hb dl_688 hl (by decide) rfl (fun ls hl => ?_)
  refine lv_aload_n hx hb dl_690 rfl (lv_at hl 4 rfl) ?_
  refine lk_ld (k := 1) X0 hH1.2.2.2 dl_691 dl_692 dl_694 dl_695 dl_696 (by decide) (by omega) (lv_at hl 2 rfl) (lv_at hl 1 rfl) ?_
  refine lk_ld (k := 2) X0 hH1.2.2.2 dl_697 dl_698 dl_700 dl_701 dl_702 (by decide) (by omega) (lv_at hl 2 rfl) (lv_at hl 1 rfl) ?_
  refine lk_run (As := [xs (i + 1), xs (i + 2)]) (a := 230) (rest := []) X0 hH1 e2 k2 (by decide) (show (164, 2) ∈ lNs by decide) (by decide) (by decide) (by decide) b2.1 b2.2 (by decide) hl.1 dl_703 rfl (fun H2 lc2 hH2 => ?_)
  obtain ⟨fs3, k3⟩ := C2.k2
  exact lk_tail (k := k) (t := t) (t0 := 706) X0 hH2 k3 e3 (lk_sp (by decide) hs1 sp) b2.1 b2.2 dl_706 dl_708 dl_709 dl_712 dl_714 dl_719 dl_721 dl_724 dl_725 dl_726 dl_727 dl_729 dl_730 dl_731 dl_736 (by decide) hl (fun H3 lc3 ls3 hH3 hl3 => kk h2 v1 H3 lc3 ls3 C2 hH3 hl3)
theorem case_mount (X : LX p l s m meth c b L xs D cJ) (hH : LH D cJ s h H v0 locs) (hC : Cm n h) (hn : n < 512) (hL4 : i + 3 < L) (hl : lv_has ls 7 [(4, .int (nI i)), (0, .ref b), (1, .ref (0 + s.heap.size)), (2, .ref (230 + s.heap.size)), (3, .ref (262 + s.heap.size))])
    (kk : ∀ (h9 : ag_H) (v9 : Int64) (H1 : Heap) (lc : List Loc) (ls : Array Slot), Cm (n + 1) h9 → LH D cJ s h9 H1 v9 lc → lv_has ls 7 [(4, .int (nI i)), (0, .ref b), (1, .ref (0 + s.heap.size)), (2, .ref (230 + s.heap.size)), (3, .ref (262 + s.heap.size))] → W p l e room_1 s m #[Value.ref b] below meth c H1 lc h9.1 h9.2.1 Q (F0 m 1126 ls [])) : W p l e room_1 s m #[Value.ref b] below meth c H locs h.1 h.2.1 Q (F0 m 739 ls []) := by
  have X0 := X
  obtain ⟨htr, hx, hb, hr, hml, hown, hts, hX, hbl, hlk, hW, hJ, hnc, hL⟩ := X
  obtain ⟨fs1, k1⟩ := hC.k1
  obtain ⟨oc, h1, bv, h2, t, ⟨fs2, k2⟩, e1, e2, e3, C2, sp⟩ := st_mount (d := 5) hC (xs (i + 1)) (xs (i + 2)) (xs (i + 3))
  have b2 := C2.bd hn
  have m1 : h.1 ≤ h1.1 ∧ h.2.1 ≤ h1.2.1 := m_run gT _ _ _ _ _ e1
  have m2 : h1.1 ≤ h2.1 ∧ h1.2.1 ≤ h2.2.1 := m_run gT _ _ _ _ _ e2
  have hM := w_mount htr (D := D) (A := lA s.heap.size) (B := lB s.heap.size) (fun q hq => hq.1) (cJ := cJ) (o := 262 + s.heap.size) (Nat.le_add_left _ _) (fun h9 => h9.2 rfl) (v0 := v0) (sh_run (o := s.heap.size) (As := [xs (i + 1), xs (i + 2), xs (i + 3)]) e1) (by rw [sH_at, k1]; rfl) (lk_ho sp)
  refine lv_aload_n hx hb dl_739 rfl (lv_at hl 2 rfl) ?_
  refine lk_ld (k := 1) X0 hH.2.2.2 dl_740 dl_741 dl_743 dl_744 dl_745 (by decide) (by omega) (lv_at hl 1 rfl) (lv_at hl 0 rfl) ?_
  refine lk_ld (k := 2) X0 hH.2.2.2 dl_746 dl_747 dl_749 dl_750 dl_751 (by decide) (by omega) (lv_at hl 1 rfl) (lv_at hl 0 rfl) ?_
  refine lk_ld (k := 3) X0 hH.2.2.2 dl_752 dl_753 dl_755 dl_756 dl_757 (by decide) (by omega) (lv_at hl 1 rfl) (lv_at hl 0 rfl) ?_
  refine lv_aload_n hx hb dl_758 rfl (lv_at hl 4 rfl) ?_
  refine lk_wrap (maxL := 6) (n := 5) X0 hH hM (vx_cwSW 5 hts (lGood sW_mount) rfl rfl rfl ⟨by decide, by decide, by decide +kernel⟩ ⟨Nat.le_of_ble_eq_true rfl, Nat.le_of_ble_eq_true rfl⟩) rfl m1.1 m1.2 (by omega) (by omega) hl.1 dl_759 rfl (fun k v1 H1 lc hH1 hs1 => ?_)
  refine lv_istore (lv' := [(5, .int (nI k)), (4, .int (nI i)), (0, .ref b), (1, .ref (0 + s.heap.size)), (2, .ref (230 + s.heap.size)), (3, .ref (262 + s.heap.size))]) hx hb dl_762 hl (by decide) rfl (fun ls hl => ?_)
  refine lv_aload_n hx hb dl_764 rfl (lv_at hl 4 rfl) ?_
  refine lk_ld (k := 1) X0 hH1.2.2.2 dl_765 dl_766 dl_768 dl_769 dl_770 (by decide) (by omega) (lv_at hl 2 rfl) (lv_at hl 1 rfl) ?_
  refine lk_ld (k := 2) X0 hH1.2.2.2 dl_771 dl_772 dl_774 dl_775 dl_776 (by decide) (by omega) (lv_at hl 2 rfl) (lv_at hl 1 rfl) ?_
  refine lk_ld (k := 3) X0 hH1.2.2.2 dl_777 dl_778 dl_780 dl_781 dl_782 (by decide) (by omega) (lv_at hl 2 rfl) (lv_at hl 1 rfl) ?_
  refine lk_run (As := [xs (i + 1), xs (i + 2), xs (i + 3)]) (a := 230) (rest := []) X0 hH1 e2 k2 (by decide) (show (165, 3) ∈ lNs by decide) (by decide) (by decide) (by decide) b2.1 b2.2 (by decide) hl.1 dl_783 rfl (fun H2 lc2 hH2 => ?_)
  obtain ⟨fs3, k3⟩ := C2.k2
  exact lk_tail (k := k) (t := t) (t0 := 786) X0 hH2 k3 e3 (lk_sp (by decide) hs1 sp) b2.1 b2.2 dl_786 dl_788 dl_789 dl_792 dl_794 dl_799 dl_801 dl_804 dl_805 dl_806 dl_807 dl_809 dl_810 dl_811 dl_816 (by decide) hl (fun H3 lc3 ls3 hH3 hl3 => kk h2 v1 H3 lc3 ls3 C2 hH3 hl3)
theorem case_unmount (X : LX p l s m meth c b L xs D cJ) (hH : LH D cJ s h H v0 locs) (hC : Cm n h) (hn : n < 512) (hL4 : i + 3 < L) (hl : lv_has ls 7 [(4, .int (nI i)), (0, .ref b), (1, .ref (0 + s.heap.size)), (2, .ref (230 + s.heap.size)), (3, .ref (262 + s.heap.size))])
    (kk : ∀ (h9 : ag_H) (v9 : Int64) (H1 : Heap) (lc : List Loc) (ls : Array Slot), Cm (n + 1) h9 → LH D cJ s h9 H1 v9 lc → lv_has ls 7 [(4, .int (nI i)), (0, .ref b), (1, .ref (0 + s.heap.size)), (2, .ref (230 + s.heap.size)), (3, .ref (262 + s.heap.size))] → W p l e room_1 s m #[Value.ref b] below meth c H1 lc h9.1 h9.2.1 Q (F0 m 1126 ls [])) : W p l e room_1 s m #[Value.ref b] below meth c H locs h.1 h.2.1 Q (F0 m 819 ls []) := by
  have X0 := X
  obtain ⟨htr, hx, hb, hr, hml, hown, hts, hX, hbl, hlk, hW, hJ, hnc, hL⟩ := X
  obtain ⟨fs1, k1⟩ := hC.k1
  obtain ⟨oc, h1, bv, h2, t, ⟨fs2, k2⟩, e1, e2, e3, C2, sp⟩ := st_unmount (d := 5) hC (xs (i + 1))
  have b2 := C2.bd hn
  have m1 : h.1 ≤ h1.1 ∧ h.2.1 ≤ h1.2.1 := m_run gT _ _ _ _ _ e1
  have m2 : h1.1 ≤ h2.1 ∧ h1.2.1 ≤ h2.2.1 := m_run gT _ _ _ _ _ e2
  have hM := w_unmount htr (D := D) (A := lA s.heap.size) (B := lB s.heap.size) (fun q hq => hq.1) (cJ := cJ) (o := 262 + s.heap.size) (Nat.le_add_left _ _) (fun h9 => h9.2 rfl) (v0 := v0) (sh_run (o := s.heap.size) (As := [xs (i + 1)]) e1) (by rw [sH_at, k1]; rfl) (lk_ho sp)
  refine lv_aload_n hx hb dl_819 rfl (lv_at hl 2 rfl) ?_
  refine lk_ld (k := 1) X0 hH.2.2.2 dl_820 dl_821 dl_823 dl_824 dl_825 (by decide) (by omega) (lv_at hl 1 rfl) (lv_at hl 0 rfl) ?_
  refine lv_aload_n hx hb dl_826 rfl (lv_at hl 4 rfl) ?_
  refine lk_wrap (maxL := 4) (n := 3) X0 hH hM (vx_cwSW 3 hts (lGood sW_unmount) rfl rfl rfl ⟨by decide, by decide, by decide +kernel⟩ ⟨Nat.le_of_ble_eq_true rfl, Nat.le_of_ble_eq_true rfl⟩) rfl m1.1 m1.2 (by omega) (by omega) hl.1 dl_827 rfl (fun k v1 H1 lc hH1 hs1 => ?_)
  refine lv_istore (lv' := [(5, .int (nI k)), (4, .int (nI i)), (0, .ref b), (1, .ref (0 + s.heap.size)), (2, .ref (230 + s.heap.size)), (3, .ref (262 + s.heap.size))]) hx hb dl_830 hl (by decide) rfl (fun ls hl => ?_)
  refine lv_aload_n hx hb dl_832 rfl (lv_at hl 4 rfl) ?_
  refine lk_ld (k := 1) X0 hH1.2.2.2 dl_833 dl_834 dl_836 dl_837 dl_838 (by decide) (by omega) (lv_at hl 2 rfl) (lv_at hl 1 rfl) ?_
  refine lk_run (As := [xs (i + 1)]) (a := 230) (rest := []) X0 hH1 e2 k2 (by decide) (show (167, 1) ∈ lNs by decide) (by decide) (by decide) (by decide) b2.1 b2.2 (by decide) hl.1 dl_839 rfl (fun H2 lc2 hH2 => ?_)
  obtain ⟨fs3, k3⟩ := C2.k2
  exact lk_tail (k := k) (t := t) (t0 := 842) X0 hH2 k3 e3 (lk_sp (by decide) hs1 sp) b2.1 b2.2 dl_842 dl_844 dl_845 dl_848 dl_850 dl_855 dl_857 dl_860 dl_861 dl_862 dl_863 dl_865 dl_866 dl_867 dl_872 (by decide) hl (fun H3 lc3 ls3 hH3 hl3 => kk h2 v1 H3 lc3 ls3 C2 hH3 hl3)
theorem case_fork (X : LX p l s m meth c b L xs D cJ) (hH : LH D cJ s h H v0 locs) (hC : Cm n h) (hn : n < 512) (hL4 : i + 3 < L) (hl : lv_has ls 7 [(4, .int (nI i)), (0, .ref b), (1, .ref (0 + s.heap.size)), (2, .ref (230 + s.heap.size)), (3, .ref (262 + s.heap.size))])
    (kk : ∀ (h9 : ag_H) (v9 : Int64) (H1 : Heap) (lc : List Loc) (ls : Array Slot), Cm (n + 1) h9 → LH D cJ s h9 H1 v9 lc → lv_has ls 7 [(4, .int (nI i)), (0, .ref b), (1, .ref (0 + s.heap.size)), (2, .ref (230 + s.heap.size)), (3, .ref (262 + s.heap.size))] → W p l e room_1 s m #[Value.ref b] below meth c H1 lc h9.1 h9.2.1 Q (F0 m 1126 ls [])) : W p l e room_1 s m #[Value.ref b] below meth c H locs h.1 h.2.1 Q (F0 m 875 ls []) := by
  have X0 := X
  obtain ⟨htr, hx, hb, hr, hml, hown, hts, hX, hbl, hlk, hW, hJ, hnc, hL⟩ := X
  obtain ⟨fs1, k1⟩ := hC.k1
  obtain ⟨oc, h1, bv, h2, t, ⟨fs2, k2⟩, e1, e2, e3, C2, sp⟩ := st_fork (d := 5) hC (xs (i + 1)) (decide (xs (i + 2) ≠ 0))
  have b2 := C2.bd hn
  have m1 : h.1 ≤ h1.1 ∧ h.2.1 ≤ h1.2.1 := m_run gT _ _ _ _ _ e1
  have m2 : h1.1 ≤ h2.1 ∧ h1.2.1 ≤ h2.2.1 := m_run gT _ _ _ _ _ e2
  have hM := w_fork htr (D := D) (A := lA s.heap.size) (B := lB s.heap.size) (fun q hq => hq.1) (cJ := cJ) (o := 262 + s.heap.size) (Nat.le_add_left _ _) (fun h9 => h9.2 rfl) (v0 := v0) (sh_run (o := s.heap.size) (As := [xs (i + 1), bI (decide (xs (i + 2) ≠ 0))]) e1) (by rw [sH_at, k1]; rfl) (lk_ho sp)
  refine lv_aload_n hx hb dl_875 rfl (lv_at hl 2 rfl) ?_
  refine lk_ld (k := 1) X0 hH.2.2.2 dl_876 dl_877 dl_879 dl_880 dl_881 (by decide) (by omega) (lv_at hl 1 rfl) (lv_at hl 0 rfl) ?_
  refine lk_ld (k := 2) X0 hH.2.2.2 dl_882 dl_883 dl_885 dl_886 dl_887 (by decide) (by omega) (lv_at hl 1 rfl) (lv_at hl 0 rfl) ?_
  refine lk_bl X0 dl_888 dl_891 dl_892 dl_895 ?_
  refine lv_aload_n hx hb dl_896 rfl (lv_at hl 4 rfl) ?_
  refine lk_wrap (maxL := 5) (n := 4) X0 hH hM (vx_cwSW 4 hts (lGood sW_fork) rfl rfl rfl ⟨by decide, by decide, by decide +kernel⟩ ⟨Nat.le_of_ble_eq_true rfl, Nat.le_of_ble_eq_true rfl⟩) rfl m1.1 m1.2 (by omega) (by omega) hl.1 dl_897 rfl (fun k v1 H1 lc hH1 hs1 => ?_)
  refine lv_istore (lv' := [(5, .int (nI k)), (4, .int (nI i)), (0, .ref b), (1, .ref (0 + s.heap.size)), (2, .ref (230 + s.heap.size)), (3, .ref (262 + s.heap.size))]) hx hb dl_900 hl (by decide) rfl (fun ls hl => ?_)
  refine lv_aload_n hx hb dl_902 rfl (lv_at hl 4 rfl) ?_
  refine lk_ld (k := 1) X0 hH1.2.2.2 dl_903 dl_904 dl_906 dl_907 dl_908 (by decide) (by omega) (lv_at hl 2 rfl) (lv_at hl 1 rfl) ?_
  refine lk_ld (k := 2) X0 hH1.2.2.2 dl_909 dl_910 dl_912 dl_913 dl_914 (by decide) (by omega) (lv_at hl 2 rfl) (lv_at hl 1 rfl) ?_
  refine lk_bl X0 dl_915 dl_918 dl_919 dl_922 ?_
  refine lk_run (As := [xs (i + 1), bI (decide (xs (i + 2) ≠ 0))]) (a := 230) (rest := []) X0 hH1 e2 k2 (by decide) (show (170, 2) ∈ lNs by decide) (by decide) (by decide) (by decide) b2.1 b2.2 (by decide) hl.1 dl_923 rfl (fun H2 lc2 hH2 => ?_)
  obtain ⟨fs3, k3⟩ := C2.k2
  exact lk_tail (k := k) (t := t) (t0 := 926) X0 hH2 k3 e3 (lk_sp (by decide) hs1 sp) b2.1 b2.2 dl_926 dl_928 dl_929 dl_932 dl_934 dl_939 dl_941 dl_944 dl_945 dl_946 dl_947 dl_949 dl_950 dl_951 dl_956 (by decide) hl (fun H3 lc3 ls3 hH3 hl3 => kk h2 v1 H3 lc3 ls3 C2 hH3 hl3)
theorem case_exit (X : LX p l s m meth c b L xs D cJ) (hH : LH D cJ s h H v0 locs) (hC : Cm n h) (hn : n < 512) (hL4 : i + 3 < L) (hl : lv_has ls 7 [(4, .int (nI i)), (0, .ref b), (1, .ref (0 + s.heap.size)), (2, .ref (230 + s.heap.size)), (3, .ref (262 + s.heap.size))])
    (kk : ∀ (h9 : ag_H) (v9 : Int64) (H1 : Heap) (lc : List Loc) (ls : Array Slot), Cm (n + 1) h9 → LH D cJ s h9 H1 v9 lc → lv_has ls 7 [(4, .int (nI i)), (0, .ref b), (1, .ref (0 + s.heap.size)), (2, .ref (230 + s.heap.size)), (3, .ref (262 + s.heap.size))] → W p l e room_1 s m #[Value.ref b] below meth c H1 lc h9.1 h9.2.1 Q (F0 m 1126 ls [])) : W p l e room_1 s m #[Value.ref b] below meth c H locs h.1 h.2.1 Q (F0 m 959 ls []) := by
  have X0 := X
  obtain ⟨htr, hx, hb, hr, hml, hown, hts, hX, hbl, hlk, hW, hJ, hnc, hL⟩ := X
  obtain ⟨fs1, k1⟩ := hC.k1
  obtain ⟨oc, h1, bv, h2, t, ⟨fs2, k2⟩, e1, e2, e3, C2, sp⟩ := st_exit (d := 5) hC (xs (i + 1))
  have b2 := C2.bd hn
  have m1 : h.1 ≤ h1.1 ∧ h.2.1 ≤ h1.2.1 := m_run gT _ _ _ _ _ e1
  have m2 : h1.1 ≤ h2.1 ∧ h1.2.1 ≤ h2.2.1 := m_run gT _ _ _ _ _ e2
  have hM := w_exit htr (D := D) (A := lA s.heap.size) (B := lB s.heap.size) (fun q hq => hq.1) (cJ := cJ) (o := 262 + s.heap.size) (Nat.le_add_left _ _) (fun h9 => h9.2 rfl) (v0 := v0) (sh_run (o := s.heap.size) (As := [xs (i + 1)]) e1) (by rw [sH_at, k1]; rfl) (lk_ho sp)
  refine lv_aload_n hx hb dl_959 rfl (lv_at hl 2 rfl) ?_
  refine lk_ld (k := 1) X0 hH.2.2.2 dl_960 dl_961 dl_963 dl_964 dl_965 (by decide) (by omega) (lv_at hl 1 rfl) (lv_at hl 0 rfl) ?_
  refine lv_aload_n hx hb dl_966 rfl (lv_at hl 4 rfl) ?_
  refine lk_wrap (maxL := 4) (n := 3) X0 hH hM (vx_cwSW 3 hts (lGood sW_exit) rfl rfl rfl ⟨by decide, by decide, by decide +kernel⟩ ⟨Nat.le_of_ble_eq_true rfl, Nat.le_of_ble_eq_true rfl⟩) rfl m1.1 m1.2 (by omega) (by omega) hl.1 dl_967 rfl (fun k v1 H1 lc hH1 hs1 => ?_)
  refine lv_istore (lv' := [(5, .int (nI k)), (4, .int (nI i)), (0, .ref b), (1, .ref (0 + s.heap.size)), (2, .ref (230 + s.heap.size)), (3, .ref (262 + s.heap.size))]) hx hb dl_970 hl (by decide) rfl (fun ls hl => ?_)
  refine lv_aload_n hx hb dl_972 rfl (lv_at hl 4 rfl) ?_
  refine lk_ld (k := 1) X0 hH1.2.2.2 dl_973 dl_974 dl_976 dl_977 dl_978 (by decide) (by omega) (lv_at hl 2 rfl) (lv_at hl 1 rfl) ?_
  refine lk_run (As := [xs (i + 1)]) (a := 230) (rest := []) X0 hH1 e2 k2 (by decide) (show (171, 1) ∈ lNs by decide) (by decide) (by decide) (by decide) b2.1 b2.2 (by decide) hl.1 dl_979 rfl (fun H2 lc2 hH2 => ?_)
  obtain ⟨fs3, k3⟩ := C2.k2
  exact lk_tail (k := k) (t := t) (t0 := 982) X0 hH2 k3 e3 (lk_sp (by decide) hs1 sp) b2.1 b2.2 dl_982 dl_984 dl_985 dl_988 dl_990 dl_995 dl_997 dl_1000 dl_1001 dl_1002 dl_1003 dl_1005 dl_1006 dl_1007 dl_1012 (by decide) hl (fun H3 lc3 ls3 hH3 hl3 => kk h2 v1 H3 lc3 ls3 C2 hH3 hl3)
theorem case_wire (X : LX p l s m meth c b L xs D cJ) (hH : LH D cJ s h H v0 locs) (hC : Cm n h) (hn : n < 512) (hL4 : i + 3 < L) (hl : lv_has ls 7 [(4, .int (nI i)), (0, .ref b), (1, .ref (0 + s.heap.size)), (2, .ref (230 + s.heap.size)), (3, .ref (262 + s.heap.size))])
    (kk : ∀ (h9 : ag_H) (v9 : Int64) (H1 : Heap) (lc : List Loc) (ls : Array Slot), Cm (n + 1) h9 → LH D cJ s h9 H1 v9 lc → lv_has ls 7 [(4, .int (nI i)), (0, .ref b), (1, .ref (0 + s.heap.size)), (2, .ref (230 + s.heap.size)), (3, .ref (262 + s.heap.size))] → W p l e room_1 s m #[Value.ref b] below meth c H1 lc h9.1 h9.2.1 Q (F0 m 1126 ls [])) : W p l e room_1 s m #[Value.ref b] below meth c H locs h.1 h.2.1 Q (F0 m 1015 ls []) := by
  have X0 := X
  obtain ⟨htr, hx, hb, hr, hml, hown, hts, hX, hbl, hlk, hW, hJ, hnc, hL⟩ := X
  obtain ⟨fs1, k1⟩ := hC.k1
  obtain ⟨h1, bv, h2, ⟨fs2, k2⟩, e1, e2, C2⟩ := st_wire (d := 5) hC (xs (i + 1)) (xs (i + 2))
  have b2 := C2.bd hn
  have m1 : h.1 ≤ h1.1 ∧ h.2.1 ≤ h1.2.1 := m_run gT _ _ _ _ _ e1
  have m2 : h1.1 ≤ h2.1 ∧ h1.2.1 ≤ h2.2.1 := m_run gT _ _ _ _ _ e2
  refine lv_aload_n hx hb dl_1015 rfl (lv_at hl 2 rfl) ?_
  refine lk_ld (k := 1) X0 hH.2.2.2 dl_1016 dl_1017 dl_1019 dl_1020 dl_1021 (by decide) (by omega) (lv_at hl 1 rfl) (lv_at hl 0 rfl) ?_
  refine lk_ld (k := 2) X0 hH.2.2.2 dl_1022 dl_1023 dl_1025 dl_1026 dl_1027 (by decide) (by omega) (lv_at hl 1 rfl) (lv_at hl 0 rfl) ?_
  refine lk_run (As := [xs (i + 1), xs (i + 2)]) (a := 0) (rest := []) X0 hH e1 k1 (by decide) (show (77, 2) ∈ lNs by decide) (by decide) (by decide) (by decide) (by omega) (by omega) (by decide) hl.1 dl_1028 rfl (fun H1 lc hH1 => ?_)
  refine lv_aload_n hx hb dl_1031 rfl (lv_at hl 3 rfl) ?_
  refine lk_ld (k := 1) X0 hH1.2.2.2 dl_1032 dl_1033 dl_1035 dl_1036 dl_1037 (by decide) (by omega) (lv_at hl 1 rfl) (lv_at hl 0 rfl) ?_
  refine lk_ld (k := 2) X0 hH1.2.2.2 dl_1038 dl_1039 dl_1041 dl_1042 dl_1043 (by decide) (by omega) (lv_at hl 1 rfl) (lv_at hl 0 rfl) ?_
  refine lk_run (As := [xs (i + 1), xs (i + 2)]) (a := 230) (rest := [.int bv]) X0 hH1 e2 k2 (by decide) (show (172, 2) ∈ lNs by decide) (by decide) (by decide) (by decide) b2.1 b2.2 (Nat.le_of_ble_eq_true rfl) hl.1 dl_1044 rfl (fun H2 lc2 hH2 => ?_)
  exact lv_icmp_eq (tgt := 1126) hx hb dl_1047 (by decide) (fun _ => kk h2 v0 H2 lc2 ls C2 hH2 hl) (fun e9 => absurd rfl e9)
theorem case_server (X : LX p l s m meth c b L xs D cJ) (hH : LH D cJ s h H v0 locs) (hC : Cm n h) (hn : n < 512) (hL4 : i + 3 < L) (hl : lv_has ls 7 [(4, .int (nI i)), (0, .ref b), (1, .ref (0 + s.heap.size)), (2, .ref (230 + s.heap.size)), (3, .ref (262 + s.heap.size))])
    (kk : ∀ (h9 : ag_H) (v9 : Int64) (H1 : Heap) (lc : List Loc) (ls : Array Slot), Cm (n + 1) h9 → LH D cJ s h9 H1 v9 lc → lv_has ls 7 [(4, .int (nI i)), (0, .ref b), (1, .ref (0 + s.heap.size)), (2, .ref (230 + s.heap.size)), (3, .ref (262 + s.heap.size))] → W p l e room_1 s m #[Value.ref b] below meth c H1 lc h9.1 h9.2.1 Q (F0 m 1126 ls [])) : W p l e room_1 s m #[Value.ref b] below meth c H locs h.1 h.2.1 Q (F0 m 1052 ls []) := by
  have X0 := X
  obtain ⟨htr, hx, hb, hr, hml, hown, hts, hX, hbl, hlk, hW, hJ, hnc, hL⟩ := X
  obtain ⟨fs1, k1⟩ := hC.k1
  obtain ⟨h1, bv, h2, ⟨fs2, k2⟩, e1, e2, C2⟩ := st_server (d := 5) hC (xs (i + 1)) (xs (i + 2))
  have b2 := C2.bd hn
  have m1 : h.1 ≤ h1.1 ∧ h.2.1 ≤ h1.2.1 := m_run gT _ _ _ _ _ e1
  have m2 : h1.1 ≤ h2.1 ∧ h1.2.1 ≤ h2.2.1 := m_run gT _ _ _ _ _ e2
  refine lv_aload_n hx hb dl_1052 rfl (lv_at hl 2 rfl) ?_
  refine lk_ld (k := 1) X0 hH.2.2.2 dl_1053 dl_1054 dl_1056 dl_1057 dl_1058 (by decide) (by omega) (lv_at hl 1 rfl) (lv_at hl 0 rfl) ?_
  refine lk_ld (k := 2) X0 hH.2.2.2 dl_1059 dl_1060 dl_1062 dl_1063 dl_1064 (by decide) (by omega) (lv_at hl 1 rfl) (lv_at hl 0 rfl) ?_
  refine lk_run (As := [xs (i + 1), xs (i + 2)]) (a := 0) (rest := []) X0 hH e1 k1 (by decide) (show (78, 2) ∈ lNs by decide) (by decide) (by decide) (by decide) (by omega) (by omega) (by decide) hl.1 dl_1065 rfl (fun H1 lc hH1 => ?_)
  refine lv_aload_n hx hb dl_1068 rfl (lv_at hl 3 rfl) ?_
  refine lk_ld (k := 1) X0 hH1.2.2.2 dl_1069 dl_1070 dl_1072 dl_1073 dl_1074 (by decide) (by omega) (lv_at hl 1 rfl) (lv_at hl 0 rfl) ?_
  refine lk_ld (k := 2) X0 hH1.2.2.2 dl_1075 dl_1076 dl_1078 dl_1079 dl_1080 (by decide) (by omega) (lv_at hl 1 rfl) (lv_at hl 0 rfl) ?_
  refine lk_run (As := [xs (i + 1), xs (i + 2)]) (a := 230) (rest := [.int bv]) X0 hH1 e2 k2 (by decide) (show (173, 2) ∈ lNs by decide) (by decide) (by decide) (by decide) b2.1 b2.2 (Nat.le_of_ble_eq_true rfl) hl.1 dl_1081 rfl (fun H2 lc2 hH2 => ?_)
  exact lv_icmp_eq (tgt := 1126) hx hb dl_1084 (by decide) (fun _ => kk h2 v0 H2 lc2 ls C2 hH2 hl) (fun e9 => absurd rfl e9)
theorem case_process (X : LX p l s m meth c b L xs D cJ) (hH : LH D cJ s h H v0 locs) (hC : Cm n h) (hn : n < 512) (hL4 : i + 3 < L) (hl : lv_has ls 7 [(4, .int (nI i)), (0, .ref b), (1, .ref (0 + s.heap.size)), (2, .ref (230 + s.heap.size)), (3, .ref (262 + s.heap.size))])
    (kk : ∀ (h9 : ag_H) (v9 : Int64) (H1 : Heap) (lc : List Loc) (ls : Array Slot), Cm (n + 1) h9 → LH D cJ s h9 H1 v9 lc → lv_has ls 7 [(4, .int (nI i)), (0, .ref b), (1, .ref (0 + s.heap.size)), (2, .ref (230 + s.heap.size)), (3, .ref (262 + s.heap.size))] → W p l e room_1 s m #[Value.ref b] below meth c H1 lc h9.1 h9.2.1 Q (F0 m 1126 ls [])) : W p l e room_1 s m #[Value.ref b] below meth c H locs h.1 h.2.1 Q (F0 m 1089 ls []) := by
  have X0 := X
  obtain ⟨htr, hx, hb, hr, hml, hown, hts, hX, hbl, hlk, hW, hJ, hnc, hL⟩ := X
  obtain ⟨fs1, k1⟩ := hC.k1
  obtain ⟨h1, bv, h2, ⟨fs2, k2⟩, e1, e2, C2⟩ := st_process (d := 5) hC (xs (i + 1)) (xs (i + 2))
  have b2 := C2.bd hn
  have m1 : h.1 ≤ h1.1 ∧ h.2.1 ≤ h1.2.1 := m_run gT _ _ _ _ _ e1
  have m2 : h1.1 ≤ h2.1 ∧ h1.2.1 ≤ h2.2.1 := m_run gT _ _ _ _ _ e2
  refine lv_aload_n hx hb dl_1089 rfl (lv_at hl 2 rfl) ?_
  refine lk_ld (k := 1) X0 hH.2.2.2 dl_1090 dl_1091 dl_1093 dl_1094 dl_1095 (by decide) (by omega) (lv_at hl 1 rfl) (lv_at hl 0 rfl) ?_
  refine lk_ld (k := 2) X0 hH.2.2.2 dl_1096 dl_1097 dl_1099 dl_1100 dl_1101 (by decide) (by omega) (lv_at hl 1 rfl) (lv_at hl 0 rfl) ?_
  refine lk_run (As := [xs (i + 1), xs (i + 2)]) (a := 0) (rest := []) X0 hH e1 k1 (by decide) (show (79, 2) ∈ lNs by decide) (by decide) (by decide) (by decide) (by omega) (by omega) (by decide) hl.1 dl_1102 rfl (fun H1 lc hH1 => ?_)
  refine lv_aload_n hx hb dl_1105 rfl (lv_at hl 3 rfl) ?_
  refine lk_ld (k := 1) X0 hH1.2.2.2 dl_1106 dl_1107 dl_1109 dl_1110 dl_1111 (by decide) (by omega) (lv_at hl 1 rfl) (lv_at hl 0 rfl) ?_
  refine lk_ld (k := 2) X0 hH1.2.2.2 dl_1112 dl_1113 dl_1115 dl_1116 dl_1117 (by decide) (by omega) (lv_at hl 1 rfl) (lv_at hl 0 rfl) ?_
  refine lk_run (As := [xs (i + 1), xs (i + 2)]) (a := 230) (rest := [.int bv]) X0 hH1 e2 k2 (by decide) (show (174, 2) ∈ lNs by decide) (by decide) (by decide) (by decide) b2.1 b2.2 (Nat.le_of_ble_eq_true rfl) hl.1 dl_1118 rfl (fun H2 lc2 hH2 => ?_)
  exact lv_icmp_eq (tgt := 1126) hx hb dl_1121 (by decide) (fun _ => kk h2 v0 H2 lc2 ls C2 hH2 hl) (fun e9 => absurd rfl e9)
end CASES

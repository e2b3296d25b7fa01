/-! ===== the law's cases 0 to 14 ===== -/
section LWC
variable {p : Program} {l : Launch} {e : Env} {s : State} {m : MethodId} {below : List Frame} {meth : Method} {c : Code} {b L : Nat} {xs : Nat → Int32} {g : qs_G} {o x y cn i k n : Nat}
set_option maxHeartbeats 1000000 in
set_option maxRecDepth 100000 in
theorem lw_c0 (hl9 : l.stackTraces = false) (C0 : lw_At p s m meth c b L xs) (hL : L ≤ 2560) (hi : i + 5 ≤ L) (hcn : cn ≤ 1000) (hkr : k + 100 ≤ 601024) (hnr : n + 10500 ≤ 7293034) (K : lw_K p l e s m below meth c b g o x y (cn + 1) i (k + 100) (n + 10500) 1882) {S : qs_S} {G : Nat → Nat → Nat} {T : tt_T} {Hm : Nat → Nat} {M : mm_M} {f : Nat → Int64} {H : Heap} {locs : List Loc} {ls : Array Slot} (st : lw_St g o s S G T Hm M f H locs x y cn) (hl : lv_has ls 7 [(0, .ref b), (1, .ref x), (2, .ref y), (3, .ref o), (4, .int (nI i))]) : W p l e room_1 s m #[Value.ref b] below meth c H locs k n (lw_Z below #[Value.ref b] s) (F0 m 172 ls []) := by
  obtain ⟨hx, hb, hr, hml, hown, hts0, hX, hbl, hlocks, hgv⟩ := id C0
  have hts : ∀ w ∈ wsL_law, w.before #[Value.ref b] s = true := fun w h => hts0 w (wsL_law_in w h)
  obtain ⟨hG, hR, ex, hM, hS, hI⟩ := st
  have hbA : ¬ (fun q : Nat => s.heap.size ≤ q) b := Nat.not_le.mpr hbl
  refine lv_aload_n hx hb dL_law_172 rfl (lv_at hl 1 rfl) ?_
  refine lw_arg (a0 := 0) (a4 := 4) (i := i) (k := 1) hx hb hX hbl hbA hG.2.2.2.1 hl rfl rfl (by omega) hL (by decide) dL_law_173 dL_law_174 dL_law_176 rfl dL_law_177 dL_law_178 ?_
  refine lw_arg (a0 := 0) (a4 := 4) (i := i) (k := 2) hx hb hX hbl hbA hG.2.2.2.1 hl rfl rfl (by omega) hL (by decide) dL_law_179 dL_law_180 dL_law_182 rfl dL_law_183 dL_law_184 ?_
  refine lv_aload_n hx hb dL_law_185 rfl (lv_at hl 3 rfl) ?_
  have hh := ch_berth (f := f) (m9 := g.2.2.2.2.2.2.2) (p0 := xs (i + 1)) (p1 := xs (i + 2)) hR ex hI
  have hc := c_L_berth (mc := 100) (ms := 10500) (post := fun kv S1 f1 => lq g.2.2.2.2.2.2.1 S x cA Int32.toInt64 (tq_berth T (xs (i + 1)) (xs (i + 2))) kv S1 (f1 0)) l hl9 g o f H.size S x (xs (i + 1)) (xs (i + 2)) (by rw [← ex]; exact hR.xL) hh
  have cw : vx_CSW room_1 s #[Value.ref b] RL 104 yL_berth cL_berth 5 (some .int) [(0, 10, 13, 13), (0, 10, 17, 15), (0, 10, 21, 17)] wsL_berth ({ frames := 8, cells := 100, slots := 10500, locals := 213 } : Room) 100 10500 4 := vx_cwSW 4 hts gL_law_L_berth rfl rfl rfl (by decide +kernel) ⟨(Nat.le_of_ble_eq_true rfl), (Nat.le_of_ble_eq_true rfl)⟩
  have hroom : k + 100 ≤ room_1.cells ∧ n + 10500 ≤ room_1.slots := ⟨hkr, hnr⟩
  have hp : PreS s H (qs_Pc (ql_g g o f) H.size S [.ref x, .int (xs (i + 1)), .int (xs (i + 2)), .ref o]) [.ref x, .int (xs (i + 1)), .int (xs (i + 2)), .ref o] := ⟨qs_Pc.blind _ _ _ _, hG.pre _⟩
  have hrun := vx_runSX (e := e) (below := below) (meth := meth) (locs := locs) (cells := k) (slots := n) (g := F0 m 186 ls [.ref o, .int (xs (i + 2)), .int (xs (i + 1)), .ref x]) (As := [.ref x, .int (xs (i + 1)), .int (xs (i + 2)), .ref o]) (rest := []) ⟨hx, hb, hml, hown, hts⟩ hc cw hp rfl rfl hl.1 rfl (lv_room (Nat.le_of_ble_eq_true rfl)) dL_law_186 hroom
  refine ql_i hG hrun (fun kv S1 f1 H locs h hG => ?_)
  obtain ⟨hkv, hv, G1, hR1, ex1, hK1⟩ := h
  have hM1 := hM.fr hK1
  refine lv_istore (lv' := [(5, .int kv), (0, .ref b), (1, .ref x), (2, .ref y), (3, .ref o), (4, .int (nI i))]) hx hb dL_law_189 hl (by decide) rfl (fun ls hl => ?_)
  refine lv_aload_n hx hb dL_law_191 rfl (lv_at hl 3 rfl) ?_
  refine lw_arg (a0 := 1) (a4 := 5) (i := i) (k := 1) hx hb hX hbl hbA hG.2.2.2.1 hl rfl rfl (by omega) hL (by decide) dL_law_192 dL_law_193 dL_law_195 rfl dL_law_196 dL_law_197 ?_
  refine lw_arg (a0 := 1) (a4 := 5) (i := i) (k := 2) hx hb hX hbl hbA hG.2.2.2.1 hl rfl rfl (by omega) hL (by decide) dL_law_198 dL_law_199 dL_law_201 rfl dL_law_202 dL_law_203 ?_
  refine qc_i hG (va_runV (As := [.int (xs (i + 1)), .int (xs (i + 2))]) (rest := []) ⟨hx, hb, hml, hown, hts⟩ (c_X7_berth l (ql_g g o f1) _ S1 y (xs (i + 1)) (xs (i + 2)) (cm_berth (post := fun v S2 => ∃ M2, tx_M S2 y Hm M2 ∧ tx_J g.2.2.2.2.2.2.1 S1 S2 ∧ mi M2 0 = nI (cA (tq_berth T (xs (i + 1)) (xs (i + 2))).1) ∧ ((tq_berth T (xs (i + 1)) (xs (i + 2))).1 = 0 → v = (tq_berth T (xs (i + 1)) (xs (i + 2))).2.1) ∧ sm (tq_berth T (xs (i + 1)) (xs (i + 2))).2.2 M2) hM1 hS hI (fun S2 M2 v a b c d e => ⟨M2, a, b, c, d, e⟩))) (cwV 2 hts gL_law_X7_berth rfl rfl rfl (by decide +kernel) ⟨(Nat.le_of_ble_eq_true rfl), (Nat.le_of_ble_eq_true rfl)⟩) ⟨qs_Pc.blind _ _ _ _, hG.recv hM1.y7.1 hM1.y7.2 (by decide) rfl, hG.pre _⟩ rfl rfl hl.1 rfl (lv_room (Nat.le_of_ble_eq_true rfl)) dL_law_204 ⟨hkr, hnr⟩) (fun v S2 H locs h hG => ?_)
  obtain ⟨M2, hM2, hJ, h0, hv2, hS2⟩ := h
  refine lv_istore (lv' := [(6, .int v), (5, .int kv), (0, .ref b), (1, .ref x), (2, .ref y), (3, .ref o), (4, .int (nI i))]) hx hb dL_law_207 hl (by decide) rfl (fun ls hl => ?_)
  exact lw_fin C0 K ⟨hG, hR1.fr hJ, ex1, hM2, hS2, te_berth hI⟩ hl (ok := (tq_berth T (xs (i + 1)) (xs (i + 2))).1 = 0) hkr hnr (hkv.trans h0.symm) (fun z => ccA0 tm_berth (hkv.symm.trans z)) (fun z => by rw [hv z, hv2 z]) dL_law_209 dL_law_210 dL_law_213 dL_law_215 dL_law_220 dL_law_222 dL_law_225 dL_law_226 dL_law_227 dL_law_228 dL_law_230 dL_law_231 dL_law_232 dL_law_237 (by decide)
set_option maxHeartbeats 1000000 in
set_option maxRecDepth 100000 in
theorem lw_c1 (hl9 : l.stackTraces = false) (C0 : lw_At p s m meth c b L xs) (hL : L ≤ 2560) (hi : i + 5 ≤ L) (hcn : cn ≤ 1000) (hkr : k + 100 ≤ 601024) (hnr : n + 10500 ≤ 7293034) (K : lw_K p l e s m below meth c b g o x y (cn + 1) i (k + 100) (n + 10500) 1882) {S : qs_S} {G : Nat → Nat → Nat} {T : tt_T} {Hm : Nat → Nat} {M : mm_M} {f : Nat → Int64} {H : Heap} {locs : List Loc} {ls : Array Slot} (st : lw_St g o s S G T Hm M f H locs x y cn) (hl : lv_has ls 7 [(0, .ref b), (1, .ref x), (2, .ref y), (3, .ref o), (4, .int (nI i))]) : W p l e room_1 s m #[Value.ref b] below meth c H locs k n (lw_Z below #[Value.ref b] s) (F0 m 240 ls []) := by
  obtain ⟨hx, hb, hr, hml, hown, hts0, hX, hbl, hlocks, hgv⟩ := id C0
  have hts : ∀ w ∈ wsL_law, w.before #[Value.ref b] s = true := fun w h => hts0 w (wsL_law_in w h)
  obtain ⟨hG, hR, ex, hM, hS, hI⟩ := st
  have hbA : ¬ (fun q : Nat => s.heap.size ≤ q) b := Nat.not_le.mpr hbl
  refine lv_aload_n hx hb dL_law_240 rfl (lv_at hl 1 rfl) ?_
  refine lw_arg (a0 := 0) (a4 := 4) (i := i) (k := 1) hx hb hX hbl hbA hG.2.2.2.1 hl rfl rfl (by omega) hL (by decide) dL_law_241 dL_law_242 dL_law_244 rfl dL_law_245 dL_law_246 ?_
  refine lw_arg (a0 := 0) (a4 := 4) (i := i) (k := 2) hx hb hX hbl hbA hG.2.2.2.1 hl rfl rfl (by omega) hL (by decide) dL_law_247 dL_law_248 dL_law_250 rfl dL_law_251 dL_law_252 ?_
  refine lv_aload_n hx hb dL_law_253 rfl (lv_at hl 3 rfl) ?_
  have hh := ch_box (f := f) (m9 := g.2.2.2.2.2.2.2) (p0 := xs (i + 1)) (p1 := xs (i + 2)) hR ex hI
  have hc := c_L_box (mc := 100) (ms := 10500) (post := fun kv S1 f1 => lq g.2.2.2.2.2.2.1 S x cA Int32.toInt64 (tq_box T (xs (i + 1)) (xs (i + 2))) kv S1 (f1 0)) l hl9 g o f H.size S x (xs (i + 1)) (xs (i + 2)) (by rw [← ex]; exact hR.xL) hh
  have cw : vx_CSW room_1 s #[Value.ref b] RL 114 yL_box cL_box 5 (some .int) [(0, 10, 13, 13), (0, 10, 17, 15), (0, 10, 21, 17)] wsL_box ({ frames := 9, cells := 100, slots := 10500, locals := 214 } : Room) 100 10500 4 := vx_cwSW 4 hts gL_law_L_box rfl rfl rfl (by decide +kernel) ⟨(Nat.le_of_ble_eq_true rfl), (Nat.le_of_ble_eq_true rfl)⟩
  have hroom : k + 100 ≤ room_1.cells ∧ n + 10500 ≤ room_1.slots := ⟨hkr, hnr⟩
  have hp : PreS s H (qs_Pc (ql_g g o f) H.size S [.ref x, .int (xs (i + 1)), .int (xs (i + 2)), .ref o]) [.ref x, .int (xs (i + 1)), .int (xs (i + 2)), .ref o] := ⟨qs_Pc.blind _ _ _ _, hG.pre _⟩
  have hrun := vx_runSX (e := e) (below := below) (meth := meth) (locs := locs) (cells := k) (slots := n) (g := F0 m 254 ls [.ref o, .int (xs (i + 2)), .int (xs (i + 1)), .ref x]) (As := [.ref x, .int (xs (i + 1)), .int (xs (i + 2)), .ref o]) (rest := []) ⟨hx, hb, hml, hown, hts⟩ hc cw hp rfl rfl hl.1 rfl (lv_room (Nat.le_of_ble_eq_true rfl)) dL_law_254 hroom
  refine ql_i hG hrun (fun kv S1 f1 H locs h hG => ?_)
  obtain ⟨hkv, hv, G1, hR1, ex1, hK1⟩ := h
  have hM1 := hM.fr hK1
  refine lv_istore (lv' := [(5, .int kv), (0, .ref b), (1, .ref x), (2, .ref y), (3, .ref o), (4, .int (nI i))]) hx hb dL_law_257 hl (by decide) rfl (fun ls hl => ?_)
  refine lv_aload_n hx hb dL_law_259 rfl (lv_at hl 3 rfl) ?_
  refine lw_arg (a0 := 1) (a4 := 5) (i := i) (k := 1) hx hb hX hbl hbA hG.2.2.2.1 hl rfl rfl (by omega) hL (by decide) dL_law_260 dL_law_261 dL_law_263 rfl dL_law_264 dL_law_265 ?_
  refine lw_arg (a0 := 1) (a4 := 5) (i := i) (k := 2) hx hb hX hbl hbA hG.2.2.2.1 hl rfl rfl (by omega) hL (by decide) dL_law_266 dL_law_267 dL_law_269 rfl dL_law_270 dL_law_271 ?_
  refine qc_i hG (va_runV (As := [.int (xs (i + 1)), .int (xs (i + 2))]) (rest := []) ⟨hx, hb, hml, hown, hts⟩ (c_X7_box l (ql_g g o f1) _ S1 y (xs (i + 1)) (xs (i + 2)) (cm_box (post := fun v S2 => ∃ M2, tx_M S2 y Hm M2 ∧ tx_J g.2.2.2.2.2.2.1 S1 S2 ∧ mi M2 0 = nI (cA (tq_box T (xs (i + 1)) (xs (i + 2))).1) ∧ ((tq_box T (xs (i + 1)) (xs (i + 2))).1 = 0 → v = (tq_box T (xs (i + 1)) (xs (i + 2))).2.1) ∧ sm (tq_box T (xs (i + 1)) (xs (i + 2))).2.2 M2) hM1 hS hI (fun S2 M2 v a b c d e => ⟨M2, a, b, c, d, e⟩))) (cwV 2 hts gL_law_X7_box rfl rfl rfl (by decide +kernel) ⟨(Nat.le_of_ble_eq_true rfl), (Nat.le_of_ble_eq_true rfl)⟩) ⟨qs_Pc.blind _ _ _ _, hG.recv hM1.y7.1 hM1.y7.2 (by decide) rfl, hG.pre _⟩ rfl rfl hl.1 rfl (lv_room (Nat.le_of_ble_eq_true rfl)) dL_law_272 ⟨hkr, hnr⟩) (fun v S2 H locs h hG => ?_)
  obtain ⟨M2, hM2, hJ, h0, hv2, hS2⟩ := h
  refine lv_istore (lv' := [(6, .int v), (5, .int kv), (0, .ref b), (1, .ref x), (2, .ref y), (3, .ref o), (4, .int (nI i))]) hx hb dL_law_275 hl (by decide) rfl (fun ls hl => ?_)
  exact lw_fin C0 K ⟨hG, hR1.fr hJ, ex1, hM2, hS2, te_box hI⟩ hl (ok := (tq_box T (xs (i + 1)) (xs (i + 2))).1 = 0) hkr hnr (hkv.trans h0.symm) (fun z => ccA0 tm_box (hkv.symm.trans z)) (fun z => by rw [hv z, hv2 z]) dL_law_277 dL_law_278 dL_law_281 dL_law_283 dL_law_288 dL_law_290 dL_law_293 dL_law_294 dL_law_295 dL_law_296 dL_law_298 dL_law_299 dL_law_300 dL_law_305 (by decide)
set_option maxHeartbeats 1000000 in
set_option maxRecDepth 100000 in
theorem lw_c2 (hl9 : l.stackTraces = false) (C0 : lw_At p s m meth c b L xs) (hL : L ≤ 2560) (hi : i + 5 ≤ L) (hcn : cn ≤ 1000) (hkr : k + 100 ≤ 601024) (hnr : n + 10500 ≤ 7293034) (K : lw_K p l e s m below meth c b g o x y (cn + 1) i (k + 100) (n + 10500) 1882) {S : qs_S} {G : Nat → Nat → Nat} {T : tt_T} {Hm : Nat → Nat} {M : mm_M} {f : Nat → Int64} {H : Heap} {locs : List Loc} {ls : Array Slot} (st : lw_St g o s S G T Hm M f H locs x y cn) (hl : lv_has ls 7 [(0, .ref b), (1, .ref x), (2, .ref y), (3, .ref o), (4, .int (nI i))]) : W p l e room_1 s m #[Value.ref b] below meth c H locs k n (lw_Z below #[Value.ref b] s) (F0 m 308 ls []) := by
  obtain ⟨hx, hb, hr, hml, hown, hts0, hX, hbl, hlocks, hgv⟩ := id C0
  have hts : ∀ w ∈ wsL_law, w.before #[Value.ref b] s = true := fun w h => hts0 w (wsL_law_in w h)
  obtain ⟨hG, hR, ex, hM, hS, hI⟩ := st
  have hbA : ¬ (fun q : Nat => s.heap.size ≤ q) b := Nat.not_le.mpr hbl
  refine lv_aload_n hx hb dL_law_308 rfl (lv_at hl 1 rfl) ?_
  refine lw_arg (a0 := 0) (a4 := 4) (i := i) (k := 1) hx hb hX hbl hbA hG.2.2.2.1 hl rfl rfl (by omega) hL (by decide) dL_law_309 dL_law_310 dL_law_312 rfl dL_law_313 dL_law_314 ?_
  refine lv_aload_n hx hb dL_law_315 rfl (lv_at hl 3 rfl) ?_
  have hh := ch_leave (f := f) (m9 := g.2.2.2.2.2.2.2) (p0 := xs (i + 1)) hR ex hI
  have hc := c_L_leave (mc := 100) (ms := 10500) (post := fun kv S1 f1 => lq g.2.2.2.2.2.2.1 S x cB Int32.toInt64 (tq_leave T (xs (i + 1))) kv S1 (f1 0)) l hl9 g o f H.size S x (xs (i + 1)) (by rw [← ex]; exact hR.xL) hh
  have cw : vx_CSW room_1 s #[Value.ref b] RL 117 yL_leave cL_leave 4 (some .int) [(0, 9, 12, 13), (0, 9, 15, 17)] wsL_leave ({ frames := 9, cells := 100, slots := 10500, locals := 158 } : Room) 100 10500 3 := vx_cwSW 3 hts gL_law_L_leave rfl rfl rfl (by decide +kernel) ⟨(Nat.le_of_ble_eq_true rfl), (Nat.le_of_ble_eq_true rfl)⟩
  have hroom : k + 100 ≤ room_1.cells ∧ n + 10500 ≤ room_1.slots := ⟨hkr, hnr⟩
  have hp : PreS s H (qs_Pc (ql_g g o f) H.size S [.ref x, .int (xs (i + 1)), .ref o]) [.ref x, .int (xs (i + 1)), .ref o] := ⟨qs_Pc.blind _ _ _ _, hG.pre _⟩
  have hrun := vx_runSX (e := e) (below := below) (meth := meth) (locs := locs) (cells := k) (slots := n) (g := F0 m 316 ls [.ref o, .int (xs (i + 1)), .ref x]) (As := [.ref x, .int (xs (i + 1)), .ref o]) (rest := []) ⟨hx, hb, hml, hown, hts⟩ hc cw hp rfl rfl hl.1 rfl (lv_room (Nat.le_of_ble_eq_true rfl)) dL_law_316 hroom
  refine ql_i hG hrun (fun kv S1 f1 H locs h hG => ?_)
  obtain ⟨hkv, hv, G1, hR1, ex1, hK1⟩ := h
  have hM1 := hM.fr hK1
  refine lv_istore (lv' := [(5, .int kv), (0, .ref b), (1, .ref x), (2, .ref y), (3, .ref o), (4, .int (nI i))]) hx hb dL_law_319 hl (by decide) rfl (fun ls hl => ?_)
  refine lv_aload_n hx hb dL_law_321 rfl (lv_at hl 3 rfl) ?_
  refine lw_arg (a0 := 1) (a4 := 5) (i := i) (k := 1) hx hb hX hbl hbA hG.2.2.2.1 hl rfl rfl (by omega) hL (by decide) dL_law_322 dL_law_323 dL_law_325 rfl dL_law_326 dL_law_327 ?_
  refine qc_i hG (va_runV (As := [.int (xs (i + 1))]) (rest := []) ⟨hx, hb, hml, hown, hts⟩ (c_X7_leave l (ql_g g o f1) _ S1 y (xs (i + 1)) (cm_leave (post := fun v S2 => ∃ M2, tx_M S2 y Hm M2 ∧ tx_J g.2.2.2.2.2.2.1 S1 S2 ∧ mi M2 0 = nI (cB (tq_leave T (xs (i + 1))).1) ∧ ((tq_leave T (xs (i + 1))).1 = 0 → v = (tq_leave T (xs (i + 1))).2.1) ∧ sm (tq_leave T (xs (i + 1))).2.2 M2) hM1 hS hI (fun S2 M2 v a b c d e => ⟨M2, a, b, c, d, e⟩))) (cwV 1 hts gL_law_X7_leave rfl rfl rfl (by decide +kernel) ⟨(Nat.le_of_ble_eq_true rfl), (Nat.le_of_ble_eq_true rfl)⟩) ⟨qs_Pc.blind _ _ _ _, hG.recv hM1.y7.1 hM1.y7.2 (by decide) rfl, hG.pre _⟩ rfl rfl hl.1 rfl (lv_room (Nat.le_of_ble_eq_true rfl)) dL_law_328 ⟨hkr, hnr⟩) (fun v S2 H locs h hG => ?_)
  obtain ⟨M2, hM2, hJ, h0, hv2, hS2⟩ := h
  refine lv_istore (lv' := [(6, .int v), (5, .int kv), (0, .ref b), (1, .ref x), (2, .ref y), (3, .ref o), (4, .int (nI i))]) hx hb dL_law_331 hl (by decide) rfl (fun ls hl => ?_)
  exact lw_fin C0 K ⟨hG, hR1.fr hJ, ex1, hM2, hS2, te_leave hI⟩ hl (ok := (tq_leave T (xs (i + 1))).1 = 0) hkr hnr (hkv.trans h0.symm) (fun z => ccB0 tm_leave (hkv.symm.trans z)) (fun z => by rw [hv z, hv2 z]) dL_law_333 dL_law_334 dL_law_337 dL_law_339 dL_law_344 dL_law_346 dL_law_349 dL_law_350 dL_law_351 dL_law_352 dL_law_354 dL_law_355 dL_law_356 dL_law_361 (by decide)
set_option maxHeartbeats 1000000 in
set_option maxRecDepth 100000 in
theorem lw_c3 (hl9 : l.stackTraces = false) (C0 : lw_At p s m meth c b L xs) (hL : L ≤ 2560) (hi : i + 5 ≤ L) (hcn : cn ≤ 1000) (hkr : k + 100 ≤ 601024) (hnr : n + 10500 ≤ 7293034) (K : lw_K p l e s m below meth c b g o x y (cn + 1) i (k + 100) (n + 10500) 1882) {S : qs_S} {G : Nat → Nat → Nat} {T : tt_T} {Hm : Nat → Nat} {M : mm_M} {f : Nat → Int64} {H : Heap} {locs : List Loc} {ls : Array Slot} (st : lw_St g o s S G T Hm M f H locs x y cn) (hl : lv_has ls 7 [(0, .ref b), (1, .ref x), (2, .ref y), (3, .ref o), (4, .int (nI i))]) : W p l e room_1 s m #[Value.ref b] below meth c H locs k n (lw_Z below #[Value.ref b] s) (F0 m 364 ls []) := by
  obtain ⟨hx, hb, hr, hml, hown, hts0, hX, hbl, hlocks, hgv⟩ := id C0
  have hts : ∀ w ∈ wsL_law, w.before #[Value.ref b] s = true := fun w h => hts0 w (wsL_law_in w h)
  obtain ⟨hG, hR, ex, hM, hS, hI⟩ := st
  have hbA : ¬ (fun q : Nat => s.heap.size ≤ q) b := Nat.not_le.mpr hbl
  refine lv_aload_n hx hb dL_law_364 rfl (lv_at hl 1 rfl) ?_
  refine lw_arg (a0 := 0) (a4 := 4) (i := i) (k := 1) hx hb hX hbl hbA hG.2.2.2.1 hl rfl rfl (by omega) hL (by decide) dL_law_365 dL_law_366 dL_law_368 rfl dL_law_369 dL_law_370 ?_
  refine lw_arg (a0 := 0) (a4 := 4) (i := i) (k := 2) hx hb hX hbl hbA hG.2.2.2.1 hl rfl rfl (by omega) hL (by decide) dL_law_371 dL_law_372 dL_law_374 rfl dL_law_375 dL_law_376 ?_
  refine lw_arg (a0 := 0) (a4 := 4) (i := i) (k := 3) hx hb hX hbl hbA hG.2.2.2.1 hl rfl rfl (by omega) hL (by decide) dL_law_377 dL_law_378 dL_law_380 rfl dL_law_381 dL_law_382 ?_
  refine lw_arg (a0 := 0) (a4 := 4) (i := i) (k := 4) hx hb hX hbl hbA hG.2.2.2.1 hl rfl rfl (by omega) hL (by decide) dL_law_383 dL_law_384 dL_law_386 rfl dL_law_387 dL_law_388 ?_
  refine lv_aload_n hx hb dL_law_389 rfl (lv_at hl 3 rfl) ?_
  have hh := ch_send (f := f) (m9 := g.2.2.2.2.2.2.2) (p0 := xs (i + 1)) (p1 := xs (i + 2)) (p2 := xs (i + 3)) (p3 := xs (i + 4)) hR ex hI
  have hc := c_L_send (mc := 100) (ms := 10500) (post := fun kv S1 f1 => lq g.2.2.2.2.2.2.1 S x cS Int32.toInt64 (tq_send T (xs (i + 1)) (xs (i + 2)) (xs (i + 3)) (xs (i + 4))) kv S1 (f1 0)) l hl9 g o f H.size S x (xs (i + 1)) (xs (i + 2)) (xs (i + 3)) (xs (i + 4)) (by rw [← ex]; exact hR.xL) hh
  have cw : vx_CSW room_1 s #[Value.ref b] RL 121 yL_send cL_send 7 (some .int) [(0, 14, 17, 15), (0, 14, 21, 13), (0, 14, 25, 17)] wsL_send ({ frames := 11, cells := 100, slots := 10500, locals := 218 } : Room) 100 10500 6 := vx_cwSW 6 hts gL_law_L_send rfl rfl rfl (by decide +kernel) ⟨(Nat.le_of_ble_eq_true rfl), (Nat.le_of_ble_eq_true rfl)⟩
  have hroom : k + 100 ≤ room_1.cells ∧ n + 10500 ≤ room_1.slots := ⟨hkr, hnr⟩
  have hp : PreS s H (qs_Pc (ql_g g o f) H.size S [.ref x, .int (xs (i + 1)), .int (xs (i + 2)), .int (xs (i + 3)), .int (xs (i + 4)), .ref o]) [.ref x, .int (xs (i + 1)), .int (xs (i + 2)), .int (xs (i + 3)), .int (xs (i + 4)), .ref o] := ⟨qs_Pc.blind _ _ _ _, hG.pre _⟩
  have hrun := vx_runSX (e := e) (below := below) (meth := meth) (locs := locs) (cells := k) (slots := n) (g := F0 m 390 ls [.ref o, .int (xs (i + 4)), .int (xs (i + 3)), .int (xs (i + 2)), .int (xs (i + 1)), .ref x]) (As := [.ref x, .int (xs (i + 1)), .int (xs (i + 2)), .int (xs (i + 3)), .int (xs (i + 4)), .ref o]) (rest := []) ⟨hx, hb, hml, hown, hts⟩ hc cw hp rfl rfl hl.1 rfl (lv_room (Nat.le_of_ble_eq_true rfl)) dL_law_390 hroom
  refine ql_i hG hrun (fun kv S1 f1 H locs h hG => ?_)
  obtain ⟨hkv, hv, G1, hR1, ex1, hK1⟩ := h
  have hM1 := hM.fr hK1
  refine lv_istore (lv' := [(5, .int kv), (0, .ref b), (1, .ref x), (2, .ref y), (3, .ref o), (4, .int (nI i))]) hx hb dL_law_393 hl (by decide) rfl (fun ls hl => ?_)
  refine lv_aload_n hx hb dL_law_395 rfl (lv_at hl 3 rfl) ?_
  refine lw_arg (a0 := 1) (a4 := 5) (i := i) (k := 1) hx hb hX hbl hbA hG.2.2.2.1 hl rfl rfl (by omega) hL (by decide) dL_law_396 dL_law_397 dL_law_399 rfl dL_law_400 dL_law_401 ?_
  refine lw_arg (a0 := 1) (a4 := 5) (i := i) (k := 2) hx hb hX hbl hbA hG.2.2.2.1 hl rfl rfl (by omega) hL (by decide) dL_law_402 dL_law_403 dL_law_405 rfl dL_law_406 dL_law_407 ?_
  refine lw_arg (a0 := 1) (a4 := 5) (i := i) (k := 3) hx hb hX hbl hbA hG.2.2.2.1 hl rfl rfl (by omega) hL (by decide) dL_law_408 dL_law_409 dL_law_411 rfl dL_law_412 dL_law_413 ?_
  refine lw_arg (a0 := 1) (a4 := 5) (i := i) (k := 4) hx hb hX hbl hbA hG.2.2.2.1 hl rfl rfl (by omega) hL (by decide) dL_law_414 dL_law_415 dL_law_417 rfl dL_law_418 dL_law_419 ?_
  refine qc_i hG (va_runV (As := [.int (xs (i + 1)), .int (xs (i + 2)), .int (xs (i + 3)), .int (xs (i + 4))]) (rest := []) ⟨hx, hb, hml, hown, hts⟩ (c_X7_send l (ql_g g o f1) _ S1 y (xs (i + 1)) (xs (i + 2)) (xs (i + 3)) (xs (i + 4)) (cm_send (post := fun v S2 => ∃ M2, tx_M S2 y Hm M2 ∧ tx_J g.2.2.2.2.2.2.1 S1 S2 ∧ mi M2 0 = nI (cS (tq_send T (xs (i + 1)) (xs (i + 2)) (xs (i + 3)) (xs (i + 4))).1) ∧ ((tq_send T (xs (i + 1)) (xs (i + 2)) (xs (i + 3)) (xs (i + 4))).1 = 0 → v = (tq_send T (xs (i + 1)) (xs (i + 2)) (xs (i + 3)) (xs (i + 4))).2.1) ∧ sm (tq_send T (xs (i + 1)) (xs (i + 2)) (xs (i + 3)) (xs (i + 4))).2.2 M2) hM1 hS hI (fun S2 M2 v a b c d e => ⟨M2, a, b, c, d, e⟩))) (cwV 4 hts gL_law_X7_send rfl rfl rfl (by decide +kernel) ⟨(Nat.le_of_ble_eq_true rfl), (Nat.le_of_ble_eq_true rfl)⟩) ⟨qs_Pc.blind _ _ _ _, hG.recv hM1.y7.1 hM1.y7.2 (by decide) rfl, hG.pre _⟩ rfl rfl hl.1 rfl (lv_room (Nat.le_of_ble_eq_true rfl)) dL_law_420 ⟨hkr, hnr⟩) (fun v S2 H locs h hG => ?_)
  obtain ⟨M2, hM2, hJ, h0, hv2, hS2⟩ := h
  refine lv_istore (lv' := [(6, .int v), (5, .int kv), (0, .ref b), (1, .ref x), (2, .ref y), (3, .ref o), (4, .int (nI i))]) hx hb dL_law_423 hl (by decide) rfl (fun ls hl => ?_)
  exact lw_fin C0 K ⟨hG, hR1.fr hJ, ex1, hM2, hS2, te_send hI⟩ hl (ok := (tq_send T (xs (i + 1)) (xs (i + 2)) (xs (i + 3)) (xs (i + 4))).1 = 0) hkr hnr (hkv.trans h0.symm) (fun z => ccS0 tm_send (hkv.symm.trans z)) (fun z => by rw [hv z, hv2 z]) dL_law_425 dL_law_426 dL_law_429 dL_law_431 dL_law_436 dL_law_438 dL_law_441 dL_law_442 dL_law_443 dL_law_444 dL_law_446 dL_law_447 dL_law_448 dL_law_453 (by decide)
set_option maxHeartbeats 1000000 in
set_option maxRecDepth 100000 in
theorem lw_c4 (hl9 : l.stackTraces = false) (C0 : lw_At p s m meth c b L xs) (hL : L ≤ 2560) (hi : i + 5 ≤ L) (hcn : cn ≤ 1000) (hkr : k + 100 ≤ 601024) (hnr : n + 10500 ≤ 7293034) (K : lw_K p l e s m below meth c b g o x y (cn + 1) i (k + 100) (n + 10500) 1882) {S : qs_S} {G : Nat → Nat → Nat} {T : tt_T} {Hm : Nat → Nat} {M : mm_M} {f : Nat → Int64} {H : Heap} {locs : List Loc} {ls : Array Slot} (st : lw_St g o s S G T Hm M f H locs x y cn) (hl : lv_has ls 7 [(0, .ref b), (1, .ref x), (2, .ref y), (3, .ref o), (4, .int (nI i))]) : W p l e room_1 s m #[Value.ref b] below meth c H locs k n (lw_Z below #[Value.ref b] s) (F0 m 456 ls []) := by
  obtain ⟨hx, hb, hr, hml, hown, hts0, hX, hbl, hlocks, hgv⟩ := id C0
  have hts : ∀ w ∈ wsL_law, w.before #[Value.ref b] s = true := fun w h => hts0 w (wsL_law_in w h)
  obtain ⟨hG, hR, ex, hM, hS, hI⟩ := st
  have hbA : ¬ (fun q : Nat => s.heap.size ≤ q) b := Nat.not_le.mpr hbl
  refine lv_aload_n hx hb dL_law_456 rfl (lv_at hl 1 rfl) ?_
  refine lw_arg (a0 := 0) (a4 := 4) (i := i) (k := 1) hx hb hX hbl hbA hG.2.2.2.1 hl rfl rfl (by omega) hL (by decide) dL_law_457 dL_law_458 dL_law_460 rfl dL_law_461 dL_law_462 ?_
  refine lv_aload_n hx hb dL_law_463 rfl (lv_at hl 3 rfl) ?_
  have hh := ch_deliver (f := f) (m9 := g.2.2.2.2.2.2.2) (p0 := xs (i + 1)) hR ex hI
  have hc := c_L_deliver (mc := 100) (ms := 10500) (post := fun kv S1 f1 => lq g.2.2.2.2.2.2.1 S x cA Int32.toInt64 (tq_deliver T (xs (i + 1))) kv S1 (f1 0)) l hl9 g o f H.size S x (xs (i + 1)) (by rw [← ex]; exact hR.xL) hh
  have cw : vx_CSW room_1 s #[Value.ref b] RL 125 yL_deliver cL_deliver 4 (some .int) [(0, 9, 12, 13)] wsL_deliver ({ frames := 12, cells := 100, slots := 10500, locals := 282 } : Room) 100 10500 3 := vx_cwSW 3 hts gL_law_L_deliver rfl rfl rfl (by decide +kernel) ⟨(Nat.le_of_ble_eq_true rfl), (Nat.le_of_ble_eq_true rfl)⟩
  have hroom : k + 100 ≤ room_1.cells ∧ n + 10500 ≤ room_1.slots := ⟨hkr, hnr⟩
  have hp : PreS s H (qs_Pc (ql_g g o f) H.size S [.ref x, .int (xs (i + 1)), .ref o]) [.ref x, .int (xs (i + 1)), .ref o] := ⟨qs_Pc.blind _ _ _ _, hG.pre _⟩
  have hrun := vx_runSX (e := e) (below := below) (meth := meth) (locs := locs) (cells := k) (slots := n) (g := F0 m 464 ls [.ref o, .int (xs (i + 1)), .ref x]) (As := [.ref x, .int (xs (i + 1)), .ref o]) (rest := []) ⟨hx, hb, hml, hown, hts⟩ hc cw hp rfl rfl hl.1 rfl (lv_room (Nat.le_of_ble_eq_true rfl)) dL_law_464 hroom
  refine ql_i hG hrun (fun kv S1 f1 H locs h hG => ?_)
  obtain ⟨hkv, hv, G1, hR1, ex1, hK1⟩ := h
  have hM1 := hM.fr hK1
  refine lv_istore (lv' := [(5, .int kv), (0, .ref b), (1, .ref x), (2, .ref y), (3, .ref o), (4, .int (nI i))]) hx hb dL_law_467 hl (by decide) rfl (fun ls hl => ?_)
  refine lv_aload_n hx hb dL_law_469 rfl (lv_at hl 3 rfl) ?_
  refine lw_arg (a0 := 1) (a4 := 5) (i := i) (k := 1) hx hb hX hbl hbA hG.2.2.2.1 hl rfl rfl (by omega) hL (by decide) dL_law_470 dL_law_471 dL_law_473 rfl dL_law_474 dL_law_475 ?_
  refine qc_i hG (va_runV (As := [.int (xs (i + 1))]) (rest := []) ⟨hx, hb, hml, hown, hts⟩ (c_X7_deliver l (ql_g g o f1) _ S1 y (xs (i + 1)) (cm_deliver (post := fun v S2 => ∃ M2, tx_M S2 y Hm M2 ∧ tx_J g.2.2.2.2.2.2.1 S1 S2 ∧ mi M2 0 = nI (cA (tq_deliver T (xs (i + 1))).1) ∧ ((tq_deliver T (xs (i + 1))).1 = 0 → v = (tq_deliver T (xs (i + 1))).2.1) ∧ sm (tq_deliver T (xs (i + 1))).2.2 M2) hM1 hS hI (by omega) (fun S2 M2 v a b c d e => ⟨M2, a, b, c, d, e⟩))) (cwV 1 hts gL_law_X7_deliver rfl rfl rfl (by decide +kernel) ⟨(Nat.le_of_ble_eq_true rfl), (Nat.le_of_ble_eq_true rfl)⟩) ⟨qs_Pc.blind _ _ _ _, hG.recv hM1.y7.1 hM1.y7.2 (by decide) rfl, hG.pre _⟩ rfl rfl hl.1 rfl (lv_room (Nat.le_of_ble_eq_true rfl)) dL_law_476 ⟨hkr, hnr⟩) (fun v S2 H locs h hG => ?_)
  obtain ⟨M2, hM2, hJ, h0, hv2, hS2⟩ := h
  refine lv_istore (lv' := [(6, .int v), (5, .int kv), (0, .ref b), (1, .ref x), (2, .ref y), (3, .ref o), (4, .int (nI i))]) hx hb dL_law_479 hl (by decide) rfl (fun ls hl => ?_)
  exact lw_fin C0 K ⟨hG, hR1.fr hJ, ex1, hM2, hS2, te_deliver hI⟩ hl (ok := (tq_deliver T (xs (i + 1))).1 = 0) hkr hnr (hkv.trans h0.symm) (fun z => ccA0 tm_deliver (hkv.symm.trans z)) (fun z => by rw [hv z, hv2 z]) dL_law_481 dL_law_482 dL_law_485 dL_law_487 dL_law_492 dL_law_494 dL_law_497 dL_law_498 dL_law_499 dL_law_500 dL_law_502 dL_law_503 dL_law_504 dL_law_509 (by decide)
set_option maxHeartbeats 1000000 in
set_option maxRecDepth 100000 in
theorem lw_c5 (hl9 : l.stackTraces = false) (C0 : lw_At p s m meth c b L xs) (hL : L ≤ 2560) (hi : i + 5 ≤ L) (hcn : cn ≤ 1000) (hkr : k + 100 ≤ 601024) (hnr : n + 10500 ≤ 7293034) (K : lw_K p l e s m below meth c b g o x y (cn + 1) i (k + 100) (n + 10500) 1882) {S : qs_S} {G : Nat → Nat → Nat} {T : tt_T} {Hm : Nat → Nat} {M : mm_M} {f : Nat → Int64} {H : Heap} {locs : List Loc} {ls : Array Slot} (st : lw_St g o s S G T Hm M f H locs x y cn) (hl : lv_has ls 7 [(0, .ref b), (1, .ref x), (2, .ref y), (3, .ref o), (4, .int (nI i))]) : W p l e room_1 s m #[Value.ref b] below meth c H locs k n (lw_Z below #[Value.ref b] s) (F0 m 512 ls []) := by
  obtain ⟨hx, hb, hr, hml, hown, hts0, hX, hbl, hlocks, hgv⟩ := id C0
  have hts : ∀ w ∈ wsL_law, w.before #[Value.ref b] s = true := fun w h => hts0 w (wsL_law_in w h)
  obtain ⟨hG, hR, ex, hM, hS, hI⟩ := st
  have hbA : ¬ (fun q : Nat => s.heap.size ≤ q) b := Nat.not_le.mpr hbl
  refine lv_aload_n hx hb dL_law_512 rfl (lv_at hl 1 rfl) ?_
  refine lw_arg (a0 := 0) (a4 := 4) (i := i) (k := 1) hx hb hX hbl hbA hG.2.2.2.1 hl rfl rfl (by omega) hL (by decide) dL_law_513 dL_law_514 dL_law_516 rfl dL_law_517 dL_law_518 ?_
  refine lv_aload_n hx hb dL_law_519 rfl (lv_at hl 3 rfl) ?_
  have hh := ch_act (f := f) (m9 := g.2.2.2.2.2.2.2) (p0 := xs (i + 1)) hR ex hI
  have hc := c_L_act (mc := 100) (ms := 10500) (post := fun kv S1 f1 => lq g.2.2.2.2.2.2.1 S x cA Int32.toInt64 (tq_act T (xs (i + 1))) kv S1 (f1 0)) l hl9 g o f H.size S x (xs (i + 1)) (by rw [← ex]; exact hR.xL) hh
  have cw : vx_CSW room_1 s #[Value.ref b] RL 128 yL_act cL_act 4 (some .int) [(0, 9, 12, 13)] wsL_act ({ frames := 10, cells := 100, slots := 10500, locals := 258 } : Room) 100 10500 3 := vx_cwSW 3 hts gL_law_L_act rfl rfl rfl (by decide +kernel) ⟨(Nat.le_of_ble_eq_true rfl), (Nat.le_of_ble_eq_true rfl)⟩
  have hroom : k + 100 ≤ room_1.cells ∧ n + 10500 ≤ room_1.slots := ⟨hkr, hnr⟩
  have hp : PreS s H (qs_Pc (ql_g g o f) H.size S [.ref x, .int (xs (i + 1)), .ref o]) [.ref x, .int (xs (i + 1)), .ref o] := ⟨qs_Pc.blind _ _ _ _, hG.pre _⟩
  have hrun := vx_runSX (e := e) (below := below) (meth := meth) (locs := locs) (cells := k) (slots := n) (g := F0 m 520 ls [.ref o, .int (xs (i + 1)), .ref x]) (As := [.ref x, .int (xs (i + 1)), .ref o]) (rest := []) ⟨hx, hb, hml, hown, hts⟩ hc cw hp rfl rfl hl.1 rfl (lv_room (Nat.le_of_ble_eq_true rfl)) dL_law_520 hroom
  refine ql_i hG hrun (fun kv S1 f1 H locs h hG => ?_)
  obtain ⟨hkv, hv, G1, hR1, ex1, hK1⟩ := h
  have hM1 := hM.fr hK1
  refine lv_istore (lv' := [(5, .int kv), (0, .ref b), (1, .ref x), (2, .ref y), (3, .ref o), (4, .int (nI i))]) hx hb dL_law_523 hl (by decide) rfl (fun ls hl => ?_)
  refine lv_aload_n hx hb dL_law_525 rfl (lv_at hl 3 rfl) ?_
  refine lw_arg (a0 := 1) (a4 := 5) (i := i) (k := 1) hx hb hX hbl hbA hG.2.2.2.1 hl rfl rfl (by omega) hL (by decide) dL_law_526 dL_law_527 dL_law_529 rfl dL_law_530 dL_law_531 ?_
  refine qc_i hG (va_runV (As := [.int (xs (i + 1))]) (rest := []) ⟨hx, hb, hml, hown, hts⟩ (c_X7_act l (ql_g g o f1) _ S1 y (xs (i + 1)) (cm_act (post := fun v S2 => ∃ M2, tx_M S2 y Hm M2 ∧ tx_J g.2.2.2.2.2.2.1 S1 S2 ∧ mi M2 0 = nI (cA (tq_act T (xs (i + 1))).1) ∧ ((tq_act T (xs (i + 1))).1 = 0 → v = (tq_act T (xs (i + 1))).2.1) ∧ sm (tq_act T (xs (i + 1))).2.2 M2) hM1 hS hI (by omega) (fun S2 M2 v a b c d e => ⟨M2, a, b, c, d, e⟩))) (cwV 1 hts gL_law_X7_act rfl rfl rfl (by decide +kernel) ⟨(Nat.le_of_ble_eq_true rfl), (Nat.le_of_ble_eq_true rfl)⟩) ⟨qs_Pc.blind _ _ _ _, hG.recv hM1.y7.1 hM1.y7.2 (by decide) rfl, hG.pre _⟩ rfl rfl hl.1 rfl (lv_room (Nat.le_of_ble_eq_true rfl)) dL_law_532 ⟨hkr, hnr⟩) (fun v S2 H locs h hG => ?_)
  obtain ⟨M2, hM2, hJ, h0, hv2, hS2⟩ := h
  refine lv_istore (lv' := [(6, .int v), (5, .int kv), (0, .ref b), (1, .ref x), (2, .ref y), (3, .ref o), (4, .int (nI i))]) hx hb dL_law_535 hl (by decide) rfl (fun ls hl => ?_)
  exact lw_fin C0 K ⟨hG, hR1.fr hJ, ex1, hM2, hS2, te_act hI⟩ hl (ok := (tq_act T (xs (i + 1))).1 = 0) hkr hnr (hkv.trans h0.symm) (fun z => ccA0 tm_act (hkv.symm.trans z)) (fun z => by rw [hv z, hv2 z]) dL_law_537 dL_law_538 dL_law_541 dL_law_543 dL_law_548 dL_law_550 dL_law_553 dL_law_554 dL_law_555 dL_law_556 dL_law_558 dL_law_559 dL_law_560 dL_law_565 (by decide)
set_option maxHeartbeats 1000000 in
set_option maxRecDepth 100000 in
theorem lw_c6 (hl9 : l.stackTraces = false) (C0 : lw_At p s m meth c b L xs) (hL : L ≤ 2560) (hi : i + 5 ≤ L) (hcn : cn ≤ 1000) (hkr : k + 100 ≤ 601024) (hnr : n + 10500 ≤ 7293034) (K : lw_K p l e s m below meth c b g o x y (cn + 1) i (k + 100) (n + 10500) 1882) {S : qs_S} {G : Nat → Nat → Nat} {T : tt_T} {Hm : Nat → Nat} {M : mm_M} {f : Nat → Int64} {H : Heap} {locs : List Loc} {ls : Array Slot} (st : lw_St g o s S G T Hm M f H locs x y cn) (hl : lv_has ls 7 [(0, .ref b), (1, .ref x), (2, .ref y), (3, .ref o), (4, .int (nI i))]) : W p l e room_1 s m #[Value.ref b] below meth c H locs k n (lw_Z below #[Value.ref b] s) (F0 m 568 ls []) := by
  obtain ⟨hx, hb, hr, hml, hown, hts0, hX, hbl, hlocks, hgv⟩ := id C0
  have hts : ∀ w ∈ wsL_law, w.before #[Value.ref b] s = true := fun w h => hts0 w (wsL_law_in w h)
  obtain ⟨hG, hR, ex, hM, hS, hI⟩ := st
  have hbA : ¬ (fun q : Nat => s.heap.size ≤ q) b := Nat.not_le.mpr hbl
  refine lv_aload_n hx hb dL_law_568 rfl (lv_at hl 1 rfl) ?_
  refine lw_arg (a0 := 0) (a4 := 4) (i := i) (k := 1) hx hb hX hbl hbA hG.2.2.2.1 hl rfl rfl (by omega) hL (by decide) dL_law_569 dL_law_570 dL_law_572 rfl dL_law_573 dL_law_574 ?_
  refine lw_arg (a0 := 0) (a4 := 4) (i := i) (k := 2) hx hb hX hbl hbA hG.2.2.2.1 hl rfl rfl (by omega) hL (by decide) dL_law_575 dL_law_576 dL_law_578 rfl dL_law_579 dL_law_580 ?_
  refine lw_arb (a0 := 0) (a4 := 4) (i := i) (k := 3) hx hb hX hbl hbA hG.2.2.2.1 hl rfl rfl (by omega) hL (by decide) dL_law_581 dL_law_582 dL_law_584 rfl dL_law_585 dL_law_586 dL_law_587 dL_law_590 dL_law_591 dL_law_594 ?_
  refine lv_aload_n hx hb dL_law_595 rfl (lv_at hl 3 rfl) ?_
  have hh := ch_lose (f := f) (m9 := g.2.2.2.2.2.2.2) (p0 := xs (i + 1)) (p1 := xs (i + 2)) (p2 := lz (xs (i + 3))) hR ex hI
  have hc := c_L_lose (mc := 100) (ms := 10500) (post := fun kv S1 f1 => lq g.2.2.2.2.2.2.1 S x cA Int32.toInt64 (tq_lose T (xs (i + 1)) (xs (i + 2)) (lz (xs (i + 3)))) kv S1 (f1 0)) l hl9 g o f H.size S x (xs (i + 1)) (xs (i + 2)) (lz (xs (i + 3))) (by rw [← ex]; exact hR.xL) hh
  have cw : vx_CSW room_1 s #[Value.ref b] RL 131 yL_lose cL_lose 6 (some .int) [(0, 12, 15, 13), (0, 12, 19, 15)] wsL_lose ({ frames := 10, cells := 100, slots := 10500, locals := 177 } : Room) 100 10500 5 := vx_cwSW 5 hts gL_law_L_lose rfl rfl rfl (by decide +kernel) ⟨(Nat.le_of_ble_eq_true rfl), (Nat.le_of_ble_eq_true rfl)⟩
  have hroom : k + 100 ≤ room_1.cells ∧ n + 10500 ≤ room_1.slots := ⟨hkr, hnr⟩
  have hp : PreS s H (qs_Pc (ql_g g o f) H.size S [.ref x, .int (xs (i + 1)), .int (xs (i + 2)), .int (lz (xs (i + 3))), .ref o]) [.ref x, .int (xs (i + 1)), .int (xs (i + 2)), .int (lz (xs (i + 3))), .ref o] := ⟨qs_Pc.blind _ _ _ _, hG.pre _⟩
  have hrun := vx_runSX (e := e) (below := below) (meth := meth) (locs := locs) (cells := k) (slots := n) (g := F0 m 596 ls [.ref o, .int (lz (xs (i + 3))), .int (xs (i + 2)), .int (xs (i + 1)), .ref x]) (As := [.ref x, .int (xs (i + 1)), .int (xs (i + 2)), .int (lz (xs (i + 3))), .ref o]) (rest := []) ⟨hx, hb, hml, hown, hts⟩ hc cw hp rfl rfl hl.1 rfl (lv_room (Nat.le_of_ble_eq_true rfl)) dL_law_596 hroom
  refine ql_i hG hrun (fun kv S1 f1 H locs h hG => ?_)
  obtain ⟨hkv, hv, G1, hR1, ex1, hK1⟩ := h
  have hM1 := hM.fr hK1
  refine lv_istore (lv' := [(5, .int kv), (0, .ref b), (1, .ref x), (2, .ref y), (3, .ref o), (4, .int (nI i))]) hx hb dL_law_599 hl (by decide) rfl (fun ls hl => ?_)
  refine lv_aload_n hx hb dL_law_601 rfl (lv_at hl 3 rfl) ?_
  refine lw_arg (a0 := 1) (a4 := 5) (i := i) (k := 1) hx hb hX hbl hbA hG.2.2.2.1 hl rfl rfl (by omega) hL (by decide) dL_law_602 dL_law_603 dL_law_605 rfl dL_law_606 dL_law_607 ?_
  refine lw_arg (a0 := 1) (a4 := 5) (i := i) (k := 2) hx hb hX hbl hbA hG.2.2.2.1 hl rfl rfl (by omega) hL (by decide) dL_law_608 dL_law_609 dL_law_611 rfl dL_law_612 dL_law_613 ?_
  refine lw_arb (a0 := 1) (a4 := 5) (i := i) (k := 3) hx hb hX hbl hbA hG.2.2.2.1 hl rfl rfl (by omega) hL (by decide) dL_law_614 dL_law_615 dL_law_617 rfl dL_law_618 dL_law_619 dL_law_620 dL_law_623 dL_law_624 dL_law_627 ?_
  refine qc_i hG (va_runV (As := [.int (xs (i + 1)), .int (xs (i + 2)), .int (lz (xs (i + 3)))]) (rest := []) ⟨hx, hb, hml, hown, hts⟩ (c_X7_lose l (ql_g g o f1) _ S1 y (xs (i + 1)) (xs (i + 2)) (lz (xs (i + 3))) (cm_lose (post := fun v S2 => ∃ M2, tx_M S2 y Hm M2 ∧ tx_J g.2.2.2.2.2.2.1 S1 S2 ∧ mi M2 0 = nI (cA (tq_lose T (xs (i + 1)) (xs (i + 2)) (lz (xs (i + 3)))).1) ∧ ((tq_lose T (xs (i + 1)) (xs (i + 2)) (lz (xs (i + 3)))).1 = 0 → v = (tq_lose T (xs (i + 1)) (xs (i + 2)) (lz (xs (i + 3)))).2.1) ∧ sm (tq_lose T (xs (i + 1)) (xs (i + 2)) (lz (xs (i + 3)))).2.2 M2) hM1 hS (fun S2 M2 v a b c d e => ⟨M2, a, b, c, d, e⟩))) (cwV 3 hts gL_law_X7_lose rfl rfl rfl (by decide +kernel) ⟨(Nat.le_of_ble_eq_true rfl), (Nat.le_of_ble_eq_true rfl)⟩) ⟨qs_Pc.blind _ _ _ _, hG.recv hM1.y7.1 hM1.y7.2 (by decide) rfl, hG.pre _⟩ rfl rfl hl.1 rfl (lv_room (Nat.le_of_ble_eq_true rfl)) dL_law_628 ⟨hkr, hnr⟩) (fun v S2 H locs h hG => ?_)
  obtain ⟨M2, hM2, hJ, h0, hv2, hS2⟩ := h
  refine lv_istore (lv' := [(6, .int v), (5, .int kv), (0, .ref b), (1, .ref x), (2, .ref y), (3, .ref o), (4, .int (nI i))]) hx hb dL_law_631 hl (by decide) rfl (fun ls hl => ?_)
  exact lw_fin C0 K ⟨hG, hR1.fr hJ, ex1, hM2, hS2, te_lose hI⟩ hl (ok := (tq_lose T (xs (i + 1)) (xs (i + 2)) (lz (xs (i + 3)))).1 = 0) hkr hnr (hkv.trans h0.symm) (fun z => ccA0 tm_lose (hkv.symm.trans z)) (fun z => by rw [hv z, hv2 z]) dL_law_633 dL_law_634 dL_law_637 dL_law_639 dL_law_644 dL_law_646 dL_law_649 dL_law_650 dL_law_651 dL_law_652 dL_law_654 dL_law_655 dL_law_656 dL_law_661 (by decide)
set_option maxHeartbeats 1000000 in
set_option maxRecDepth 100000 in
theorem lw_c7 (hl9 : l.stackTraces = false) (C0 : lw_At p s m meth c b L xs) (hL : L ≤ 2560) (hi : i + 5 ≤ L) (hcn : cn ≤ 1000) (hkr : k + 100 ≤ 601024) (hnr : n + 10500 ≤ 7293034) (K : lw_K p l e s m below meth c b g o x y (cn + 1) i (k + 100) (n + 10500) 1882) {S : qs_S} {G : Nat → Nat → Nat} {T : tt_T} {Hm : Nat → Nat} {M : mm_M} {f : Nat → Int64} {H : Heap} {locs : List Loc} {ls : Array Slot} (st : lw_St g o s S G T Hm M f H locs x y cn) (hl : lv_has ls 7 [(0, .ref b), (1, .ref x), (2, .ref y), (3, .ref o), (4, .int (nI i))]) : W p l e room_1 s m #[Value.ref b] below meth c H locs k n (lw_Z below #[Value.ref b] s) (F0 m 664 ls []) := by
  obtain ⟨hx, hb, hr, hml, hown, hts0, hX, hbl, hlocks, hgv⟩ := id C0
  have hts : ∀ w ∈ wsL_law, w.before #[Value.ref b] s = true := fun w h => hts0 w (wsL_law_in w h)
  obtain ⟨hG, hR, ex, hM, hS, hI⟩ := st
  have hbA : ¬ (fun q : Nat => s.heap.size ≤ q) b := Nat.not_le.mpr hbl
  refine lv_aload_n hx hb dL_law_664 rfl (lv_at hl 1 rfl) ?_
  refine lw_arg (a0 := 0) (a4 := 4) (i := i) (k := 1) hx hb hX hbl hbA hG.2.2.2.1 hl rfl rfl (by omega) hL (by decide) dL_law_665 dL_law_666 dL_law_668 rfl dL_law_669 dL_law_670 ?_
  refine lv_aload_n hx hb dL_law_671 rfl (lv_at hl 3 rfl) ?_
  have hh := ch_repeat (f := f) (m9 := g.2.2.2.2.2.2.2) (p0 := xs (i + 1)) hR ex hI
  have hc := c_L_repeat (mc := 100) (ms := 10500) (post := fun kv S1 f1 => lq g.2.2.2.2.2.2.1 S x cB Int32.toInt64 (tq_repeat T (xs (i + 1))) kv S1 (f1 0)) l hl9 g o f H.size S x (xs (i + 1)) (by rw [← ex]; exact hR.xL) hh
  have cw : vx_CSW room_1 s #[Value.ref b] RL 135 yL_repeat cL_repeat 4 (some .int) [(0, 9, 12, 13), (0, 9, 15, 17)] wsL_repeat ({ frames := 11, cells := 100, slots := 10500, locals := 214 } : Room) 100 10500 3 := vx_cwSW 3 hts gL_law_L_repeat rfl rfl rfl (by decide +kernel) ⟨(Nat.le_of_ble_eq_true rfl), (Nat.le_of_ble_eq_true rfl)⟩
  have hroom : k + 100 ≤ room_1.cells ∧ n + 10500 ≤ room_1.slots := ⟨hkr, hnr⟩
  have hp : PreS s H (qs_Pc (ql_g g o f) H.size S [.ref x, .int (xs (i + 1)), .ref o]) [.ref x, .int (xs (i + 1)), .ref o] := ⟨qs_Pc.blind _ _ _ _, hG.pre _⟩
  have hrun := vx_runSX (e := e) (below := below) (meth := meth) (locs := locs) (cells := k) (slots := n) (g := F0 m 672 ls [.ref o, .int (xs (i + 1)), .ref x]) (As := [.ref x, .int (xs (i + 1)), .ref o]) (rest := []) ⟨hx, hb, hml, hown, hts⟩ hc cw hp rfl rfl hl.1 rfl (lv_room (Nat.le_of_ble_eq_true rfl)) dL_law_672 hroom
  refine ql_i hG hrun (fun kv S1 f1 H locs h hG => ?_)
  obtain ⟨hkv, hv, G1, hR1, ex1, hK1⟩ := h
  have hM1 := hM.fr hK1
  refine lv_istore (lv' := [(5, .int kv), (0, .ref b), (1, .ref x), (2, .ref y), (3, .ref o), (4, .int (nI i))]) hx hb dL_law_675 hl (by decide) rfl (fun ls hl => ?_)
  refine lv_aload_n hx hb dL_law_677 rfl (lv_at hl 3 rfl) ?_
  refine lw_arg (a0 := 1) (a4 := 5) (i := i) (k := 1) hx hb hX hbl hbA hG.2.2.2.1 hl rfl rfl (by omega) hL (by decide) dL_law_678 dL_law_679 dL_law_681 rfl dL_law_682 dL_law_683 ?_
  refine qc_i hG (va_runV (As := [.int (xs (i + 1))]) (rest := []) ⟨hx, hb, hml, hown, hts⟩ (c_X7_repeat l (ql_g g o f1) _ S1 y (xs (i + 1)) (cm_repeat (post := fun v S2 => ∃ M2, tx_M S2 y Hm M2 ∧ tx_J g.2.2.2.2.2.2.1 S1 S2 ∧ mi M2 0 = nI (cB (tq_repeat T (xs (i + 1))).1) ∧ ((tq_repeat T (xs (i + 1))).1 = 0 → v = (tq_repeat T (xs (i + 1))).2.1) ∧ sm (tq_repeat T (xs (i + 1))).2.2 M2) hM1 hS hI (fun S2 M2 v a b c d e => ⟨M2, a, b, c, d, e⟩))) (cwV 1 hts gL_law_X7_repeat rfl rfl rfl (by decide +kernel) ⟨(Nat.le_of_ble_eq_true rfl), (Nat.le_of_ble_eq_true rfl)⟩) ⟨qs_Pc.blind _ _ _ _, hG.recv hM1.y7.1 hM1.y7.2 (by decide) rfl, hG.pre _⟩ rfl rfl hl.1 rfl (lv_room (Nat.le_of_ble_eq_true rfl)) dL_law_684 ⟨hkr, hnr⟩) (fun v S2 H locs h hG => ?_)
  obtain ⟨M2, hM2, hJ, h0, hv2, hS2⟩ := h
  refine lv_istore (lv' := [(6, .int v), (5, .int kv), (0, .ref b), (1, .ref x), (2, .ref y), (3, .ref o), (4, .int (nI i))]) hx hb dL_law_687 hl (by decide) rfl (fun ls hl => ?_)
  exact lw_fin C0 K ⟨hG, hR1.fr hJ, ex1, hM2, hS2, te_repeat hI⟩ hl (ok := (tq_repeat T (xs (i + 1))).1 = 0) hkr hnr (hkv.trans h0.symm) (fun z => ccB0 tm_repeat (hkv.symm.trans z)) (fun z => by rw [hv z, hv2 z]) dL_law_689 dL_law_690 dL_law_693 dL_law_695 dL_law_700 dL_law_702 dL_law_705 dL_law_706 dL_law_707 dL_law_708 dL_law_710 dL_law_711 dL_law_712 dL_law_717 (by decide)
set_option maxHeartbeats 1000000 in
set_option maxRecDepth 100000 in
theorem lw_c8 (hl9 : l.stackTraces = false) (C0 : lw_At p s m meth c b L xs) (hL : L ≤ 2560) (hi : i + 5 ≤ L) (hcn : cn ≤ 1000) (hkr : k + 100 ≤ 601024) (hnr : n + 10500 ≤ 7293034) (K : lw_K p l e s m below meth c b g o x y (cn + 1) i (k + 100) (n + 10500) 1882) {S : qs_S} {G : Nat → Nat → Nat} {T : tt_T} {Hm : Nat → Nat} {M : mm_M} {f : Nat → Int64} {H : Heap} {locs : List Loc} {ls : Array Slot} (st : lw_St g o s S G T Hm M f H locs x y cn) (hl : lv_has ls 7 [(0, .ref b), (1, .ref x), (2, .ref y), (3, .ref o), (4, .int (nI i))]) : W p l e room_1 s m #[Value.ref b] below meth c H locs k n (lw_Z below #[Value.ref b] s) (F0 m 720 ls []) := by
  obtain ⟨hx, hb, hr, hml, hown, hts0, hX, hbl, hlocks, hgv⟩ := id C0
  have hts : ∀ w ∈ wsL_law, w.before #[Value.ref b] s = true := fun w h => hts0 w (wsL_law_in w h)
  obtain ⟨hG, hR, ex, hM, hS, hI⟩ := st
  have hbA : ¬ (fun q : Nat => s.heap.size ≤ q) b := Nat.not_le.mpr hbl
  refine lv_aload_n hx hb dL_law_720 rfl (lv_at hl 1 rfl) ?_
  refine lw_arg (a0 := 0) (a4 := 4) (i := i) (k := 1) hx hb hX hbl hbA hG.2.2.2.1 hl rfl rfl (by omega) hL (by decide) dL_law_721 dL_law_722 dL_law_724 rfl dL_law_725 dL_law_726 ?_
  refine lw_arb (a0 := 0) (a4 := 4) (i := i) (k := 2) hx hb hX hbl hbA hG.2.2.2.1 hl rfl rfl (by omega) hL (by decide) dL_law_727 dL_law_728 dL_law_730 rfl dL_law_731 dL_law_732 dL_law_733 dL_law_736 dL_law_737 dL_law_740 ?_
  refine lv_aload_n hx hb dL_law_741 rfl (lv_at hl 3 rfl) ?_
  have hh := ch_silence (f := f) (m9 := g.2.2.2.2.2.2.2) (p0 := xs (i + 1)) (p1 := lz (xs (i + 2))) hR ex hI lz01
  have hc := c_L_silence (mc := 100) (ms := 10500) (post := fun kv S1 f1 => lq g.2.2.2.2.2.2.1 S x cA lb (tq_silence T (xs (i + 1)) (lz (xs (i + 2)))) kv S1 (f1 0)) l hl9 g o f H.size S x (xs (i + 1)) (lz (xs (i + 2))) (by rw [← ex]; exact hR.xL) hh
  have cw : vx_CSW room_1 s #[Value.ref b] RL 138 yL_silence cL_silence 5 (some .int) [(0, 17, 20, 13)] wsL_silence ({ frames := 9, cells := 100, slots := 10500, locals := 156 } : Room) 100 10500 4 := vx_cwSW 4 hts gL_law_L_silence rfl rfl rfl (by decide +kernel) ⟨(Nat.le_of_ble_eq_true rfl), (Nat.le_of_ble_eq_true rfl)⟩
  have hroom : k + 100 ≤ room_1.cells ∧ n + 10500 ≤ room_1.slots := ⟨hkr, hnr⟩
  have hp : PreS s H (qs_Pc (ql_g g o f) H.size S [.ref x, .int (xs (i + 1)), .int (lz (xs (i + 2))), .ref o]) [.ref x, .int (xs (i + 1)), .int (lz (xs (i + 2))), .ref o] := ⟨qs_Pc.blind _ _ _ _, hG.pre _⟩
  have hrun := vx_runSX (e := e) (below := below) (meth := meth) (locs := locs) (cells := k) (slots := n) (g := F0 m 742 ls [.ref o, .int (lz (xs (i + 2))), .int (xs (i + 1)), .ref x]) (As := [.ref x, .int (xs (i + 1)), .int (lz (xs (i + 2))), .ref o]) (rest := []) ⟨hx, hb, hml, hown, hts⟩ hc cw hp rfl rfl hl.1 rfl (lv_room (Nat.le_of_ble_eq_true rfl)) dL_law_742 hroom
  refine ql_i hG hrun (fun kv S1 f1 H locs h hG => ?_)
  obtain ⟨hkv, hv, G1, hR1, ex1, hK1⟩ := h
  have hM1 := hM.fr hK1
  refine lv_istore (lv' := [(5, .int kv), (0, .ref b), (1, .ref x), (2, .ref y), (3, .ref o), (4, .int (nI i))]) hx hb dL_law_745 hl (by decide) rfl (fun ls hl => ?_)
  refine lv_aload_n hx hb dL_law_747 rfl (lv_at hl 3 rfl) ?_
  refine lw_arg (a0 := 1) (a4 := 5) (i := i) (k := 1) hx hb hX hbl hbA hG.2.2.2.1 hl rfl rfl (by omega) hL (by decide) dL_law_748 dL_law_749 dL_law_751 rfl dL_law_752 dL_law_753 ?_
  refine lw_arb (a0 := 1) (a4 := 5) (i := i) (k := 2) hx hb hX hbl hbA hG.2.2.2.1 hl rfl rfl (by omega) hL (by decide) dL_law_754 dL_law_755 dL_law_757 rfl dL_law_758 dL_law_759 dL_law_760 dL_law_763 dL_law_764 dL_law_767 ?_
  refine qc_i hG (va_runV (As := [.int (xs (i + 1)), .int (lz (xs (i + 2)))]) (rest := []) ⟨hx, hb, hml, hown, hts⟩ (c_X7_silence l (ql_g g o f1) _ S1 y (xs (i + 1)) (lz (xs (i + 2))) (cm_silence (post := fun v S2 => ∃ M2, tx_M S2 y Hm M2 ∧ tx_J g.2.2.2.2.2.2.1 S1 S2 ∧ mi M2 0 = nI (cA (tq_silence T (xs (i + 1)) (lz (xs (i + 2)))).1) ∧ ((tq_silence T (xs (i + 1)) (lz (xs (i + 2)))).1 = 0 → v = (tq_silence T (xs (i + 1)) (lz (xs (i + 2)))).2.1) ∧ sm (tq_silence T (xs (i + 1)) (lz (xs (i + 2)))).2.2 M2) hM1 hS hI lz01 (fun S2 M2 v a b c d e => ⟨M2, a, b, c, d, e⟩))) (cwV 2 hts gL_law_X7_silence rfl rfl rfl (by decide +kernel) ⟨(Nat.le_of_ble_eq_true rfl), (Nat.le_of_ble_eq_true rfl)⟩) ⟨qs_Pc.blind _ _ _ _, hG.recv hM1.y7.1 hM1.y7.2 (by decide) rfl, hG.pre _⟩ rfl rfl hl.1 rfl (lv_room (Nat.le_of_ble_eq_true rfl)) dL_law_768 ⟨hkr, hnr⟩) (fun v S2 H locs h hG => ?_)
  obtain ⟨M2, hM2, hJ, h0, hv2, hS2⟩ := h
  refine lv_istore (lv' := [(6, .int v), (5, .int kv), (0, .ref b), (1, .ref x), (2, .ref y), (3, .ref o), (4, .int (nI i))]) hx hb dL_law_771 hl (by decide) rfl (fun ls hl => ?_)
  exact lw_finB C0 K ⟨hG, hR1.fr hJ, ex1, hM2, hS2, te_silence hI lz01⟩ hl (ok := (tq_silence T (xs (i + 1)) (lz (xs (i + 2)))).1 = 0) hkr hnr (hkv.trans h0.symm) (fun z => ccA0 tm_silence (hkv.symm.trans z)) (fun z => by rw [hv z, hv2 z]) dL_law_773 dL_law_774 dL_law_777 dL_law_779 dL_law_784 dL_law_786 dL_law_789 dL_law_790 dL_law_791 dL_law_792 dL_law_794 dL_law_797 dL_law_798 dL_law_801 dL_law_802 dL_law_803 dL_law_808 (by decide)
set_option maxHeartbeats 1000000 in
set_option maxRecDepth 100000 in
theorem lw_c9 (hl9 : l.stackTraces = false) (C0 : lw_At p s m meth c b L xs) (hL : L ≤ 2560) (hi : i + 5 ≤ L) (hcn : cn ≤ 1000) (hkr : k + 100 ≤ 601024) (hnr : n + 10500 ≤ 7293034) (K : lw_K p l e s m below meth c b g o x y (cn + 1) i (k + 100) (n + 10500) 1882) {S : qs_S} {G : Nat → Nat → Nat} {T : tt_T} {Hm : Nat → Nat} {M : mm_M} {f : Nat → Int64} {H : Heap} {locs : List Loc} {ls : Array Slot} (st : lw_St g o s S G T Hm M f H locs x y cn) (hl : lv_has ls 7 [(0, .ref b), (1, .ref x), (2, .ref y), (3, .ref o), (4, .int (nI i))]) : W p l e room_1 s m #[Value.ref b] below meth c H locs k n (lw_Z below #[Value.ref b] s) (F0 m 811 ls []) := by
  obtain ⟨hx, hb, hr, hml, hown, hts0, hX, hbl, hlocks, hgv⟩ := id C0
  have hts : ∀ w ∈ wsL_law, w.before #[Value.ref b] s = true := fun w h => hts0 w (wsL_law_in w h)
  obtain ⟨hG, hR, ex, hM, hS, hI⟩ := st
  have hbA : ¬ (fun q : Nat => s.heap.size ≤ q) b := Nat.not_le.mpr hbl
  refine lv_aload_n hx hb dL_law_811 rfl (lv_at hl 1 rfl) ?_
  refine lw_arg (a0 := 0) (a4 := 4) (i := i) (k := 1) hx hb hX hbl hbA hG.2.2.2.1 hl rfl rfl (by omega) hL (by decide) dL_law_812 dL_law_813 dL_law_815 rfl dL_law_816 dL_law_817 ?_
  refine lw_arg (a0 := 0) (a4 := 4) (i := i) (k := 2) hx hb hX hbl hbA hG.2.2.2.1 hl rfl rfl (by omega) hL (by decide) dL_law_818 dL_law_819 dL_law_821 rfl dL_law_822 dL_law_823 ?_
  refine lv_aload_n hx hb dL_law_824 rfl (lv_at hl 3 rfl) ?_
  have hh := ch_giveAway (f := f) (m9 := g.2.2.2.2.2.2.2) (p0 := xs (i + 1)) (p1 := xs (i + 2)) hR ex hI
  have hc := c_L_giveAway (mc := 100) (ms := 10500) (post := fun kv S1 f1 => lq g.2.2.2.2.2.2.1 S x cB Int32.toInt64 (tq_giveAway T (xs (i + 1)) (xs (i + 2))) kv S1 (f1 0)) l hl9 g o f H.size S x (xs (i + 1)) (xs (i + 2)) (by rw [← ex]; exact hR.xL) hh
  have cw : vx_CSW room_1 s #[Value.ref b] RL 142 yL_giveAway cL_giveAway 5 (some .int) [(0, 10, 13, 13), (0, 10, 17, 17)] wsL_giveAway ({ frames := 9, cells := 100, slots := 10500, locals := 217 } : Room) 100 10500 4 := vx_cwSW 4 hts gL_law_L_giveAway rfl rfl rfl (by decide +kernel) ⟨(Nat.le_of_ble_eq_true rfl), (Nat.le_of_ble_eq_true rfl)⟩
  have hroom : k + 100 ≤ room_1.cells ∧ n + 10500 ≤ room_1.slots := ⟨hkr, hnr⟩
  have hp : PreS s H (qs_Pc (ql_g g o f) H.size S [.ref x, .int (xs (i + 1)), .int (xs (i + 2)), .ref o]) [.ref x, .int (xs (i + 1)), .int (xs (i + 2)), .ref o] := ⟨qs_Pc.blind _ _ _ _, hG.pre _⟩
  have hrun := vx_runSX (e := e) (below := below) (meth := meth) (locs := locs) (cells := k) (slots := n) (g := F0 m 825 ls [.ref o, .int (xs (i + 2)), .int (xs (i + 1)), .ref x]) (As := [.ref x, .int (xs (i + 1)), .int (xs (i + 2)), .ref o]) (rest := []) ⟨hx, hb, hml, hown, hts⟩ hc cw hp rfl rfl hl.1 rfl (lv_room (Nat.le_of_ble_eq_true rfl)) dL_law_825 hroom
  refine ql_i hG hrun (fun kv S1 f1 H locs h hG => ?_)
  obtain ⟨hkv, hv, G1, hR1, ex1, hK1⟩ := h
  have hM1 := hM.fr hK1
  refine lv_istore (lv' := [(5, .int kv), (0, .ref b), (1, .ref x), (2, .ref y), (3, .ref o), (4, .int (nI i))]) hx hb dL_law_828 hl (by decide) rfl (fun ls hl => ?_)
  refine lv_aload_n hx hb dL_law_830 rfl (lv_at hl 3 rfl) ?_
  refine lw_arg (a0 := 1) (a4 := 5) (i := i) (k := 1) hx hb hX hbl hbA hG.2.2.2.1 hl rfl rfl (by omega) hL (by decide) dL_law_831 dL_law_832 dL_law_834 rfl dL_law_835 dL_law_836 ?_
  refine lw_arg (a0 := 1) (a4 := 5) (i := i) (k := 2) hx hb hX hbl hbA hG.2.2.2.1 hl rfl rfl (by omega) hL (by decide) dL_law_837 dL_law_838 dL_law_840 rfl dL_law_841 dL_law_842 ?_
  refine qc_i hG (va_runV (As := [.int (xs (i + 1)), .int (xs (i + 2))]) (rest := []) ⟨hx, hb, hml, hown, hts⟩ (c_X7_giveAway l (ql_g g o f1) _ S1 y (xs (i + 1)) (xs (i + 2)) (cm_giveAway (post := fun v S2 => ∃ M2, tx_M S2 y Hm M2 ∧ tx_J g.2.2.2.2.2.2.1 S1 S2 ∧ mi M2 0 = nI (cB (tq_giveAway T (xs (i + 1)) (xs (i + 2))).1) ∧ ((tq_giveAway T (xs (i + 1)) (xs (i + 2))).1 = 0 → v = (tq_giveAway T (xs (i + 1)) (xs (i + 2))).2.1) ∧ sm (tq_giveAway T (xs (i + 1)) (xs (i + 2))).2.2 M2) hM1 hS hI (fun S2 M2 v a b c d e => ⟨M2, a, b, c, d, e⟩))) (cwV 2 hts gL_law_X7_giveAway rfl rfl rfl (by decide +kernel) ⟨(Nat.le_of_ble_eq_true rfl), (Nat.le_of_ble_eq_true rfl)⟩) ⟨qs_Pc.blind _ _ _ _, hG.recv hM1.y7.1 hM1.y7.2 (by decide) rfl, hG.pre _⟩ rfl rfl hl.1 rfl (lv_room (Nat.le_of_ble_eq_true rfl)) dL_law_843 ⟨hkr, hnr⟩) (fun v S2 H locs h hG => ?_)
  obtain ⟨M2, hM2, hJ, h0, hv2, hS2⟩ := h
  refine lv_istore (lv' := [(6, .int v), (5, .int kv), (0, .ref b), (1, .ref x), (2, .ref y), (3, .ref o), (4, .int (nI i))]) hx hb dL_law_846 hl (by decide) rfl (fun ls hl => ?_)
  exact lw_fin C0 K ⟨hG, hR1.fr hJ, ex1, hM2, hS2, te_giveAway hI⟩ hl (ok := (tq_giveAway T (xs (i + 1)) (xs (i + 2))).1 = 0) hkr hnr (hkv.trans h0.symm) (fun z => ccB0 tm_giveAway (hkv.symm.trans z)) (fun z => by rw [hv z, hv2 z]) dL_law_848 dL_law_849 dL_law_852 dL_law_854 dL_law_859 dL_law_861 dL_law_864 dL_law_865 dL_law_866 dL_law_867 dL_law_869 dL_law_870 dL_law_871 dL_law_876 (by decide)
set_option maxHeartbeats 1000000 in
set_option maxRecDepth 100000 in
theorem lw_c10 (hl9 : l.stackTraces = false) (C0 : lw_At p s m meth c b L xs) (hL : L ≤ 2560) (hi : i + 5 ≤ L) (hcn : cn ≤ 1000) (hkr : k + 100 ≤ 601024) (hnr : n + 10500 ≤ 7293034) (K : lw_K p l e s m below meth c b g o x y (cn + 1) i (k + 100) (n + 10500) 1882) {S : qs_S} {G : Nat → Nat → Nat} {T : tt_T} {Hm : Nat → Nat} {M : mm_M} {f : Nat → Int64} {H : Heap} {locs : List Loc} {ls : Array Slot} (st : lw_St g o s S G T Hm M f H locs x y cn) (hl : lv_has ls 7 [(0, .ref b), (1, .ref x), (2, .ref y), (3, .ref o), (4, .int (nI i))]) : W p l e room_1 s m #[Value.ref b] below meth c H locs k n (lw_Z below #[Value.ref b] s) (F0 m 879 ls []) := by
  obtain ⟨hx, hb, hr, hml, hown, hts0, hX, hbl, hlocks, hgv⟩ := id C0
  have hts : ∀ w ∈ wsL_law, w.before #[Value.ref b] s = true := fun w h => hts0 w (wsL_law_in w h)
  obtain ⟨hG, hR, ex, hM, hS, hI⟩ := st
  have hbA : ¬ (fun q : Nat => s.heap.size ≤ q) b := Nat.not_le.mpr hbl
  refine lv_aload_n hx hb dL_law_879 rfl (lv_at hl 1 rfl) ?_
  refine lw_arg (a0 := 0) (a4 := 4) (i := i) (k := 1) hx hb hX hbl hbA hG.2.2.2.1 hl rfl rfl (by omega) hL (by decide) dL_law_880 dL_law_881 dL_law_883 rfl dL_law_884 dL_law_885 ?_
  refine lw_arg (a0 := 0) (a4 := 4) (i := i) (k := 2) hx hb hX hbl hbA hG.2.2.2.1 hl rfl rfl (by omega) hL (by decide) dL_law_886 dL_law_887 dL_law_889 rfl dL_law_890 dL_law_891 ?_
  refine lv_aload_n hx hb dL_law_892 rfl (lv_at hl 3 rfl) ?_
  have hh := ch_park (f := f) (m9 := g.2.2.2.2.2.2.2) (p0 := xs (i + 1)) (p1 := xs (i + 2)) hR ex hI
  have hc := c_L_park (mc := 100) (ms := 10500) (post := fun kv S1 f1 => lq g.2.2.2.2.2.2.1 S x cB Int32.toInt64 (tq_park T (xs (i + 1)) (xs (i + 2))) kv S1 (f1 0)) l hl9 g o f H.size S x (xs (i + 1)) (xs (i + 2)) (by rw [← ex]; exact hR.xL) hh
  have cw : vx_CSW room_1 s #[Value.ref b] RL 145 yL_park cL_park 5 (some .int) [(0, 10, 13, 13), (0, 10, 17, 17)] wsL_park ({ frames := 10, cells := 100, slots := 10500, locals := 180 } : Room) 100 10500 4 := vx_cwSW 4 hts gL_law_L_park rfl rfl rfl (by decide +kernel) ⟨(Nat.le_of_ble_eq_true rfl), (Nat.le_of_ble_eq_true rfl)⟩
  have hroom : k + 100 ≤ room_1.cells ∧ n + 10500 ≤ room_1.slots := ⟨hkr, hnr⟩
  have hp : PreS s H (qs_Pc (ql_g g o f) H.size S [.ref x, .int (xs (i + 1)), .int (xs (i + 2)), .ref o]) [.ref x, .int (xs (i + 1)), .int (xs (i + 2)), .ref o] := ⟨qs_Pc.blind _ _ _ _, hG.pre _⟩
  have hrun := vx_runSX (e := e) (below := below) (meth := meth) (locs := locs) (cells := k) (slots := n) (g := F0 m 893 ls [.ref o, .int (xs (i + 2)), .int (xs (i + 1)), .ref x]) (As := [.ref x, .int (xs (i + 1)), .int (xs (i + 2)), .ref o]) (rest := []) ⟨hx, hb, hml, hown, hts⟩ hc cw hp rfl rfl hl.1 rfl (lv_room (Nat.le_of_ble_eq_true rfl)) dL_law_893 hroom
  refine ql_i hG hrun (fun kv S1 f1 H locs h hG => ?_)
  obtain ⟨hkv, hv, G1, hR1, ex1, hK1⟩ := h
  have hM1 := hM.fr hK1
  refine lv_istore (lv' := [(5, .int kv), (0, .ref b), (1, .ref x), (2, .ref y), (3, .ref o), (4, .int (nI i))]) hx hb dL_law_896 hl (by decide) rfl (fun ls hl => ?_)
  refine lv_aload_n hx hb dL_law_898 rfl (lv_at hl 3 rfl) ?_
  refine lw_arg (a0 := 1) (a4 := 5) (i := i) (k := 1) hx hb hX hbl hbA hG.2.2.2.1 hl rfl rfl (by omega) hL (by decide) dL_law_899 dL_law_900 dL_law_902 rfl dL_law_903 dL_law_904 ?_
  refine lw_arg (a0 := 1) (a4 := 5) (i := i) (k := 2) hx hb hX hbl hbA hG.2.2.2.1 hl rfl rfl (by omega) hL (by decide) dL_law_905 dL_law_906 dL_law_908 rfl dL_law_909 dL_law_910 ?_
  refine qc_i hG (va_runV (As := [.int (xs (i + 1)), .int (xs (i + 2))]) (rest := []) ⟨hx, hb, hml, hown, hts⟩ (c_X7_park l (ql_g g o f1) _ S1 y (xs (i + 1)) (xs (i + 2)) (cm_park (post := fun v S2 => ∃ M2, tx_M S2 y Hm M2 ∧ tx_J g.2.2.2.2.2.2.1 S1 S2 ∧ mi M2 0 = nI (cB (tq_park T (xs (i + 1)) (xs (i + 2))).1) ∧ ((tq_park T (xs (i + 1)) (xs (i + 2))).1 = 0 → v = (tq_park T (xs (i + 1)) (xs (i + 2))).2.1) ∧ sm (tq_park T (xs (i + 1)) (xs (i + 2))).2.2 M2) hM1 hS (fun S2 M2 v a b c d e => ⟨M2, a, b, c, d, e⟩))) (cwV 2 hts gL_law_X7_park rfl rfl rfl (by decide +kernel) ⟨(Nat.le_of_ble_eq_true rfl), (Nat.le_of_ble_eq_true rfl)⟩) ⟨qs_Pc.blind _ _ _ _, hG.recv hM1.y7.1 hM1.y7.2 (by decide) rfl, hG.pre _⟩ rfl rfl hl.1 rfl (lv_room (Nat.le_of_ble_eq_true rfl)) dL_law_911 ⟨hkr, hnr⟩) (fun v S2 H locs h hG => ?_)
  obtain ⟨M2, hM2, hJ, h0, hv2, hS2⟩ := h
  refine lv_istore (lv' := [(6, .int v), (5, .int kv), (0, .ref b), (1, .ref x), (2, .ref y), (3, .ref o), (4, .int (nI i))]) hx hb dL_law_914 hl (by decide) rfl (fun ls hl => ?_)
  exact lw_fin C0 K ⟨hG, hR1.fr hJ, ex1, hM2, hS2, te_park hI⟩ hl (ok := (tq_park T (xs (i + 1)) (xs (i + 2))).1 = 0) hkr hnr (hkv.trans h0.symm) (fun z => ccB0 tm_park (hkv.symm.trans z)) (fun z => by rw [hv z, hv2 z]) dL_law_916 dL_law_917 dL_law_920 dL_law_922 dL_law_927 dL_law_929 dL_law_932 dL_law_933 dL_law_934 dL_law_935 dL_law_937 dL_law_938 dL_law_939 dL_law_944 (by decide)
set_option maxHeartbeats 1000000 in
set_option maxRecDepth 100000 in
theorem lw_c11 (hl9 : l.stackTraces = false) (C0 : lw_At p s m meth c b L xs) (hL : L ≤ 2560) (hi : i + 5 ≤ L) (hcn : cn ≤ 1000) (hkr : k + 100 ≤ 601024) (hnr : n + 10500 ≤ 7293034) (K : lw_K p l e s m below meth c b g o x y (cn + 1) i (k + 100) (n + 10500) 1882) {S : qs_S} {G : Nat → Nat → Nat} {T : tt_T} {Hm : Nat → Nat} {M : mm_M} {f : Nat → Int64} {H : Heap} {locs : List Loc} {ls : Array Slot} (st : lw_St g o s S G T Hm M f H locs x y cn) (hl : lv_has ls 7 [(0, .ref b), (1, .ref x), (2, .ref y), (3, .ref o), (4, .int (nI i))]) : W p l e room_1 s m #[Value.ref b] below meth c H locs k n (lw_Z below #[Value.ref b] s) (F0 m 947 ls []) := by
  obtain ⟨hx, hb, hr, hml, hown, hts0, hX, hbl, hlocks, hgv⟩ := id C0
  have hts : ∀ w ∈ wsL_law, w.before #[Value.ref b] s = true := fun w h => hts0 w (wsL_law_in w h)
  obtain ⟨hG, hR, ex, hM, hS, hI⟩ := st
  have hbA : ¬ (fun q : Nat => s.heap.size ≤ q) b := Nat.not_le.mpr hbl
  refine lv_aload_n hx hb dL_law_947 rfl (lv_at hl 1 rfl) ?_
  refine lw_arg (a0 := 0) (a4 := 4) (i := i) (k := 1) hx hb hX hbl hbA hG.2.2.2.1 hl rfl rfl (by omega) hL (by decide) dL_law_948 dL_law_949 dL_law_951 rfl dL_law_952 dL_law_953 ?_
  refine lw_arg (a0 := 0) (a4 := 4) (i := i) (k := 2) hx hb hX hbl hbA hG.2.2.2.1 hl rfl rfl (by omega) hL (by decide) dL_law_954 dL_law_955 dL_law_957 rfl dL_law_958 dL_law_959 ?_
  refine lw_arg (a0 := 0) (a4 := 4) (i := i) (k := 3) hx hb hX hbl hbA hG.2.2.2.1 hl rfl rfl (by omega) hL (by decide) dL_law_960 dL_law_961 dL_law_963 rfl dL_law_964 dL_law_965 ?_
  refine lv_aload_n hx hb dL_law_966 rfl (lv_at hl 3 rfl) ?_
  have hh := ch_book (f := f) (m9 := g.2.2.2.2.2.2.2) (p0 := xs (i + 1)) (p1 := xs (i + 2)) (p2 := xs (i + 3)) hR ex hI
  have hc := c_L_book (mc := 100) (ms := 10500) (post := fun kv S1 f1 => lq g.2.2.2.2.2.2.1 S x cA Int32.toInt64 (tq_book T (xs (i + 1)) (xs (i + 2)) (xs (i + 3))) kv S1 (f1 0)) l hl9 g o f H.size S x (xs (i + 1)) (xs (i + 2)) (xs (i + 3)) (by rw [← ex]; exact hR.xL) hh
  have cw : vx_CSW room_1 s #[Value.ref b] RL 148 yL_book cL_book 6 (some .int) [(0, 12, 15, 13), (0, 12, 19, 15), (0, 12, 23, 17)] wsL_book ({ frames := 9, cells := 100, slots := 10500, locals := 157 } : Room) 100 10500 5 := vx_cwSW 5 hts gL_law_L_book rfl rfl rfl (by decide +kernel) ⟨(Nat.le_of_ble_eq_true rfl), (Nat.le_of_ble_eq_true rfl)⟩
  have hroom : k + 100 ≤ room_1.cells ∧ n + 10500 ≤ room_1.slots := ⟨hkr, hnr⟩
  have hp : PreS s H (qs_Pc (ql_g g o f) H.size S [.ref x, .int (xs (i + 1)), .int (xs (i + 2)), .int (xs (i + 3)), .ref o]) [.ref x, .int (xs (i + 1)), .int (xs (i + 2)), .int (xs (i + 3)), .ref o] := ⟨qs_Pc.blind _ _ _ _, hG.pre _⟩
  have hrun := vx_runSX (e := e) (below := below) (meth := meth) (locs := locs) (cells := k) (slots := n) (g := F0 m 967 ls [.ref o, .int (xs (i + 3)), .int (xs (i + 2)), .int (xs (i + 1)), .ref x]) (As := [.ref x, .int (xs (i + 1)), .int (xs (i + 2)), .int (xs (i + 3)), .ref o]) (rest := []) ⟨hx, hb, hml, hown, hts⟩ hc cw hp rfl rfl hl.1 rfl (lv_room (Nat.le_of_ble_eq_true rfl)) dL_law_967 hroom
  refine ql_i hG hrun (fun kv S1 f1 H locs h hG => ?_)
  obtain ⟨hkv, hv, G1, hR1, ex1, hK1⟩ := h
  have hM1 := hM.fr hK1
  refine lv_istore (lv' := [(5, .int kv), (0, .ref b), (1, .ref x), (2, .ref y), (3, .ref o), (4, .int (nI i))]) hx hb dL_law_970 hl (by decide) rfl (fun ls hl => ?_)
  refine lv_aload_n hx hb dL_law_972 rfl (lv_at hl 3 rfl) ?_
  refine lw_arg (a0 := 1) (a4 := 5) (i := i) (k := 1) hx hb hX hbl hbA hG.2.2.2.1 hl rfl rfl (by omega) hL (by decide) dL_law_973 dL_law_974 dL_law_976 rfl dL_law_977 dL_law_978 ?_
  refine lw_arg (a0 := 1) (a4 := 5) (i := i) (k := 2) hx hb hX hbl hbA hG.2.2.2.1 hl rfl rfl (by omega) hL (by decide) dL_law_979 dL_law_980 dL_law_982 rfl dL_law_983 dL_law_984 ?_
  refine lw_arg (a0 := 1) (a4 := 5) (i := i) (k := 3) hx hb hX hbl hbA hG.2.2.2.1 hl rfl rfl (by omega) hL (by decide) dL_law_985 dL_law_986 dL_law_988 rfl dL_law_989 dL_law_990 ?_
  refine qc_i hG (va_runV (As := [.int (xs (i + 1)), .int (xs (i + 2)), .int (xs (i + 3))]) (rest := []) ⟨hx, hb, hml, hown, hts⟩ (c_X7_book l (ql_g g o f1) _ S1 y (xs (i + 1)) (xs (i + 2)) (xs (i + 3)) (cm_book (post := fun v S2 => ∃ M2, tx_M S2 y Hm M2 ∧ tx_J g.2.2.2.2.2.2.1 S1 S2 ∧ mi M2 0 = nI (cA (tq_book T (xs (i + 1)) (xs (i + 2)) (xs (i + 3))).1) ∧ ((tq_book T (xs (i + 1)) (xs (i + 2)) (xs (i + 3))).1 = 0 → v = (tq_book T (xs (i + 1)) (xs (i + 2)) (xs (i + 3))).2.1) ∧ sm (tq_book T (xs (i + 1)) (xs (i + 2)) (xs (i + 3))).2.2 M2) hM1 hS hI (fun S2 M2 v a b c d e => ⟨M2, a, b, c, d, e⟩))) (cwV 3 hts gL_law_X7_book rfl rfl rfl (by decide +kernel) ⟨(Nat.le_of_ble_eq_true rfl), (Nat.le_of_ble_eq_true rfl)⟩) ⟨qs_Pc.blind _ _ _ _, hG.recv hM1.y7.1 hM1.y7.2 (by decide) rfl, hG.pre _⟩ rfl rfl hl.1 rfl (lv_room (Nat.le_of_ble_eq_true rfl)) dL_law_991 ⟨hkr, hnr⟩) (fun v S2 H locs h hG => ?_)
  obtain ⟨M2, hM2, hJ, h0, hv2, hS2⟩ := h
  refine lv_istore (lv' := [(6, .int v), (5, .int kv), (0, .ref b), (1, .ref x), (2, .ref y), (3, .ref o), (4, .int (nI i))]) hx hb dL_law_994 hl (by decide) rfl (fun ls hl => ?_)
  exact lw_fin C0 K ⟨hG, hR1.fr hJ, ex1, hM2, hS2, te_book hI⟩ hl (ok := (tq_book T (xs (i + 1)) (xs (i + 2)) (xs (i + 3))).1 = 0) hkr hnr (hkv.trans h0.symm) (fun z => ccA0 tm_book (hkv.symm.trans z)) (fun z => by rw [hv z, hv2 z]) dL_law_996 dL_law_997 dL_law_1000 dL_law_1002 dL_law_1007 dL_law_1009 dL_law_1012 dL_law_1013 dL_law_1014 dL_law_1015 dL_law_1017 dL_law_1018 dL_law_1019 dL_law_1024 (by decide)
set_option maxHeartbeats 1000000 in
set_option maxRecDepth 100000 in
theorem lw_c12 (hl9 : l.stackTraces = false) (C0 : lw_At p s m meth c b L xs) (hL : L ≤ 2560) (hi : i + 5 ≤ L) (hcn : cn ≤ 1000) (hkr : k + 100 ≤ 601024) (hnr : n + 10500 ≤ 7293034) (K : lw_K p l e s m below meth c b g o x y (cn + 1) i (k + 100) (n + 10500) 1882) {S : qs_S} {G : Nat → Nat → Nat} {T : tt_T} {Hm : Nat → Nat} {M : mm_M} {f : Nat → Int64} {H : Heap} {locs : List Loc} {ls : Array Slot} (st : lw_St g o s S G T Hm M f H locs x y cn) (hl : lv_has ls 7 [(0, .ref b), (1, .ref x), (2, .ref y), (3, .ref o), (4, .int (nI i))]) : W p l e room_1 s m #[Value.ref b] below meth c H locs k n (lw_Z below #[Value.ref b] s) (F0 m 1027 ls []) := by
  obtain ⟨hx, hb, hr, hml, hown, hts0, hX, hbl, hlocks, hgv⟩ := id C0
  have hts : ∀ w ∈ wsL_law, w.before #[Value.ref b] s = true := fun w h => hts0 w (wsL_law_in w h)
  obtain ⟨hG, hR, ex, hM, hS, hI⟩ := st
  have hbA : ¬ (fun q : Nat => s.heap.size ≤ q) b := Nat.not_le.mpr hbl
  refine lv_aload_n hx hb dL_law_1027 rfl (lv_at hl 1 rfl) ?_
  refine lw_arg (a0 := 0) (a4 := 4) (i := i) (k := 1) hx hb hX hbl hbA hG.2.2.2.1 hl rfl rfl (by omega) hL (by decide) dL_law_1028 dL_law_1029 dL_law_1031 rfl dL_law_1032 dL_law_1033 ?_
  refine lv_aload_n hx hb dL_law_1034 rfl (lv_at hl 3 rfl) ?_
  have hh := ch_unbook (f := f) (m9 := g.2.2.2.2.2.2.2) (p0 := xs (i + 1)) hR ex hI
  have hc := c_L_unbook (mc := 100) (ms := 10500) (post := fun kv S1 f1 => lq g.2.2.2.2.2.2.1 S x cB Int32.toInt64 (tq_unbook T (xs (i + 1))) kv S1 (f1 0)) l hl9 g o f H.size S x (xs (i + 1)) (by rw [← ex]; exact hR.xL) hh
  have cw : vx_CSW room_1 s #[Value.ref b] RL 152 yL_unbook cL_unbook 4 (some .int) [(0, 9, 12, 13), (0, 9, 15, 17)] wsL_unbook ({ frames := 9, cells := 100, slots := 10500, locals := 155 } : Room) 100 10500 3 := vx_cwSW 3 hts gL_law_L_unbook rfl rfl rfl (by decide +kernel) ⟨(Nat.le_of_ble_eq_true rfl), (Nat.le_of_ble_eq_true rfl)⟩
  have hroom : k + 100 ≤ room_1.cells ∧ n + 10500 ≤ room_1.slots := ⟨hkr, hnr⟩
  have hp : PreS s H (qs_Pc (ql_g g o f) H.size S [.ref x, .int (xs (i + 1)), .ref o]) [.ref x, .int (xs (i + 1)), .ref o] := ⟨qs_Pc.blind _ _ _ _, hG.pre _⟩
  have hrun := vx_runSX (e := e) (below := below) (meth := meth) (locs := locs) (cells := k) (slots := n) (g := F0 m 1035 ls [.ref o, .int (xs (i + 1)), .ref x]) (As := [.ref x, .int (xs (i + 1)), .ref o]) (rest := []) ⟨hx, hb, hml, hown, hts⟩ hc cw hp rfl rfl hl.1 rfl (lv_room (Nat.le_of_ble_eq_true rfl)) dL_law_1035 hroom
  refine ql_i hG hrun (fun kv S1 f1 H locs h hG => ?_)
  obtain ⟨hkv, hv, G1, hR1, ex1, hK1⟩ := h
  have hM1 := hM.fr hK1
  refine lv_istore (lv' := [(5, .int kv), (0, .ref b), (1, .ref x), (2, .ref y), (3, .ref o), (4, .int (nI i))]) hx hb dL_law_1038 hl (by decide) rfl (fun ls hl => ?_)
  refine lv_aload_n hx hb dL_law_1040 rfl (lv_at hl 3 rfl) ?_
  refine lw_arg (a0 := 1) (a4 := 5) (i := i) (k := 1) hx hb hX hbl hbA hG.2.2.2.1 hl rfl rfl (by omega) hL (by decide) dL_law_1041 dL_law_1042 dL_law_1044 rfl dL_law_1045 dL_law_1046 ?_
  refine qc_i hG (va_runV (As := [.int (xs (i + 1))]) (rest := []) ⟨hx, hb, hml, hown, hts⟩ (c_X7_unbook l (ql_g g o f1) _ S1 y (xs (i + 1)) (cm_unbook (post := fun v S2 => ∃ M2, tx_M S2 y Hm M2 ∧ tx_J g.2.2.2.2.2.2.1 S1 S2 ∧ mi M2 0 = nI (cB (tq_unbook T (xs (i + 1))).1) ∧ ((tq_unbook T (xs (i + 1))).1 = 0 → v = (tq_unbook T (xs (i + 1))).2.1) ∧ sm (tq_unbook T (xs (i + 1))).2.2 M2) hM1 hS hI (fun S2 M2 v a b c d e => ⟨M2, a, b, c, d, e⟩))) (cwV 1 hts gL_law_X7_unbook rfl rfl rfl (by decide +kernel) ⟨(Nat.le_of_ble_eq_true rfl), (Nat.le_of_ble_eq_true rfl)⟩) ⟨qs_Pc.blind _ _ _ _, hG.recv hM1.y7.1 hM1.y7.2 (by decide) rfl, hG.pre _⟩ rfl rfl hl.1 rfl (lv_room (Nat.le_of_ble_eq_true rfl)) dL_law_1047 ⟨hkr, hnr⟩) (fun v S2 H locs h hG => ?_)
  obtain ⟨M2, hM2, hJ, h0, hv2, hS2⟩ := h
  refine lv_istore (lv' := [(6, .int v), (5, .int kv), (0, .ref b), (1, .ref x), (2, .ref y), (3, .ref o), (4, .int (nI i))]) hx hb dL_law_1050 hl (by decide) rfl (fun ls hl => ?_)
  exact lw_fin C0 K ⟨hG, hR1.fr hJ, ex1, hM2, hS2, te_unbook hI⟩ hl (ok := (tq_unbook T (xs (i + 1))).1 = 0) hkr hnr (hkv.trans h0.symm) (fun z => ccB0 tm_unbook (hkv.symm.trans z)) (fun z => by rw [hv z, hv2 z]) dL_law_1052 dL_law_1053 dL_law_1056 dL_law_1058 dL_law_1063 dL_law_1065 dL_law_1068 dL_law_1069 dL_law_1070 dL_law_1071 dL_law_1073 dL_law_1074 dL_law_1075 dL_law_1080 (by decide)
set_option maxHeartbeats 1000000 in
set_option maxRecDepth 100000 in
theorem lw_c13 (hl9 : l.stackTraces = false) (C0 : lw_At p s m meth c b L xs) (hL : L ≤ 2560) (hi : i + 5 ≤ L) (hcn : cn ≤ 1000) (hkr : k + 100 ≤ 601024) (hnr : n + 10500 ≤ 7293034) (K : lw_K p l e s m below meth c b g o x y (cn + 1) i (k + 100) (n + 10500) 1882) {S : qs_S} {G : Nat → Nat → Nat} {T : tt_T} {Hm : Nat → Nat} {M : mm_M} {f : Nat → Int64} {H : Heap} {locs : List Loc} {ls : Array Slot} (st : lw_St g o s S G T Hm M f H locs x y cn) (hl : lv_has ls 7 [(0, .ref b), (1, .ref x), (2, .ref y), (3, .ref o), (4, .int (nI i))]) : W p l e room_1 s m #[Value.ref b] below meth c H locs k n (lw_Z below #[Value.ref b] s) (F0 m 1083 ls []) := by
  obtain ⟨hx, hb, hr, hml, hown, hts0, hX, hbl, hlocks, hgv⟩ := id C0
  have hts : ∀ w ∈ wsL_law, w.before #[Value.ref b] s = true := fun w h => hts0 w (wsL_law_in w h)
  obtain ⟨hG, hR, ex, hM, hS, hI⟩ := st
  have hbA : ¬ (fun q : Nat => s.heap.size ≤ q) b := Nat.not_le.mpr hbl
  refine lv_aload_n hx hb dL_law_1083 rfl (lv_at hl 1 rfl) ?_
  refine lw_arg (a0 := 0) (a4 := 4) (i := i) (k := 1) hx hb hX hbl hbA hG.2.2.2.1 hl rfl rfl (by omega) hL (by decide) dL_law_1084 dL_law_1085 dL_law_1087 rfl dL_law_1088 dL_law_1089 ?_
  refine lv_aload_n hx hb dL_law_1090 rfl (lv_at hl 3 rfl) ?_
  have hh := ch_advance (f := f) (m9 := g.2.2.2.2.2.2.2) (p0 := xs (i + 1)) hR ex hI
  have hc := c_L_advance (mc := 100) (ms := 10500) (post := fun kv S1 f1 => lq g.2.2.2.2.2.2.1 S x cV Int32.toInt64 (tq_advance T (xs (i + 1))) kv S1 (f1 0)) l hl9 g o f H.size S x (xs (i + 1)) (by rw [← ex]; exact hR.xL) hh
  have cw : vx_CSW room_1 s #[Value.ref b] RL 155 yL_advance cL_advance 4 (some .int) [(0, 9, 12, 15), (0, 9, 15, 17)] wsL_advance ({ frames := 7, cells := 100, slots := 10500, locals := 114 } : Room) 100 10500 3 := vx_cwSW 3 hts gL_law_L_advance rfl rfl rfl (by decide +kernel) ⟨(Nat.le_of_ble_eq_true rfl), (Nat.le_of_ble_eq_true rfl)⟩
  have hroom : k + 100 ≤ room_1.cells ∧ n + 10500 ≤ room_1.slots := ⟨hkr, hnr⟩
  have hp : PreS s H (qs_Pc (ql_g g o f) H.size S [.ref x, .int (xs (i + 1)), .ref o]) [.ref x, .int (xs (i + 1)), .ref o] := ⟨qs_Pc.blind _ _ _ _, hG.pre _⟩
  have hrun := vx_runSX (e := e) (below := below) (meth := meth) (locs := locs) (cells := k) (slots := n) (g := F0 m 1091 ls [.ref o, .int (xs (i + 1)), .ref x]) (As := [.ref x, .int (xs (i + 1)), .ref o]) (rest := []) ⟨hx, hb, hml, hown, hts⟩ hc cw hp rfl rfl hl.1 rfl (lv_room (Nat.le_of_ble_eq_true rfl)) dL_law_1091 hroom
  refine ql_i hG hrun (fun kv S1 f1 H locs h hG => ?_)
  obtain ⟨hkv, hv, G1, hR1, ex1, hK1⟩ := h
  have hM1 := hM.fr hK1
  refine lv_istore (lv' := [(5, .int kv), (0, .ref b), (1, .ref x), (2, .ref y), (3, .ref o), (4, .int (nI i))]) hx hb dL_law_1094 hl (by decide) rfl (fun ls hl => ?_)
  refine lv_aload_n hx hb dL_law_1096 rfl (lv_at hl 3 rfl) ?_
  refine lw_arg (a0 := 1) (a4 := 5) (i := i) (k := 1) hx hb hX hbl hbA hG.2.2.2.1 hl rfl rfl (by omega) hL (by decide) dL_law_1097 dL_law_1098 dL_law_1100 rfl dL_law_1101 dL_law_1102 ?_
  refine qc_i hG (va_runV (As := [.int (xs (i + 1))]) (rest := []) ⟨hx, hb, hml, hown, hts⟩ (c_X7_advance l (ql_g g o f1) _ S1 y (xs (i + 1)) (cm_advance (post := fun v S2 => ∃ M2, tx_M S2 y Hm M2 ∧ tx_J g.2.2.2.2.2.2.1 S1 S2 ∧ mi M2 0 = nI (cV (tq_advance T (xs (i + 1))).1) ∧ ((tq_advance T (xs (i + 1))).1 = 0 → v = (tq_advance T (xs (i + 1))).2.1) ∧ sm (tq_advance T (xs (i + 1))).2.2 M2) hM1 hS hI (fun S2 M2 v a b c d e => ⟨M2, a, b, c, d, e⟩))) (cwV 1 hts gL_law_X7_advance rfl rfl rfl (by decide +kernel) ⟨(Nat.le_of_ble_eq_true rfl), (Nat.le_of_ble_eq_true rfl)⟩) ⟨qs_Pc.blind _ _ _ _, hG.recv hM1.y7.1 hM1.y7.2 (by decide) rfl, hG.pre _⟩ rfl rfl hl.1 rfl (lv_room (Nat.le_of_ble_eq_true rfl)) dL_law_1103 ⟨hkr, hnr⟩) (fun v S2 H locs h hG => ?_)
  obtain ⟨M2, hM2, hJ, h0, hv2, hS2⟩ := h
  refine lv_istore (lv' := [(6, .int v), (5, .int kv), (0, .ref b), (1, .ref x), (2, .ref y), (3, .ref o), (4, .int (nI i))]) hx hb dL_law_1106 hl (by decide) rfl (fun ls hl => ?_)
  exact lw_fin C0 K ⟨hG, hR1.fr hJ, ex1, hM2, hS2, te_advance hI⟩ hl (ok := (tq_advance T (xs (i + 1))).1 = 0) hkr hnr (hkv.trans h0.symm) (fun z => ccV0 tm_advance (hkv.symm.trans z)) (fun z => by rw [hv z, hv2 z]) dL_law_1108 dL_law_1109 dL_law_1112 dL_law_1114 dL_law_1119 dL_law_1121 dL_law_1124 dL_law_1125 dL_law_1126 dL_law_1127 dL_law_1129 dL_law_1130 dL_law_1131 dL_law_1136 (by decide)
set_option maxHeartbeats 1000000 in
set_option maxRecDepth 100000 in
theorem lw_c14 (hl9 : l.stackTraces = false) (C0 : lw_At p s m meth c b L xs) (hL : L ≤ 2560) (hi : i + 5 ≤ L) (hcn : cn ≤ 1000) (hkr : k + 100 ≤ 601024) (hnr : n + 10500 ≤ 7293034) (K : lw_K p l e s m below meth c b g o x y (cn + 1) i (k + 100) (n + 10500) 1882) {S : qs_S} {G : Nat → Nat → Nat} {T : tt_T} {Hm : Nat → Nat} {M : mm_M} {f : Nat → Int64} {H : Heap} {locs : List Loc} {ls : Array Slot} (st : lw_St g o s S G T Hm M f H locs x y cn) (hl : lv_has ls 7 [(0, .ref b), (1, .ref x), (2, .ref y), (3, .ref o), (4, .int (nI i))]) : W p l e room_1 s m #[Value.ref b] below meth c H locs k n (lw_Z below #[Value.ref b] s) (F0 m 1139 ls []) := by
  obtain ⟨hx, hb, hr, hml, hown, hts0, hX, hbl, hlocks, hgv⟩ := id C0
  have hts : ∀ w ∈ wsL_law, w.before #[Value.ref b] s = true := fun w h => hts0 w (wsL_law_in w h)
  obtain ⟨hG, hR, ex, hM, hS, hI⟩ := st
  have hbA : ¬ (fun q : Nat => s.heap.size ≤ q) b := Nat.not_le.mpr hbl
  subst ex
  refine lv_aload_n hx hb dL_law_1139 rfl (lv_at hl 1 rfl) ?_
  refine qc_i hG (va_runV (As := []) (rest := []) ⟨hx, hb, hml, hown, hts⟩ (c_X6_hour l (ql_g g o f) _ S (G 6 0) (cq_hour (post := fun v S1 => v = (tq_hour T).2.1 ∧ ∃ G1, tx_R g.2.2.2.2.2.2.1 S1 G1 T ∧ G1 6 0 = G 6 0 ∧ tx_K g.2.2.2.2.2.2.1 S S1) (px := fun _ _ => True) hR ⟨fun _ S1 G1 a b k => ⟨rfl, G1, a, b, k⟩, fun _ => trivial, fun _ => trivial, fun _ => trivial⟩)) (cwV 0 hts gL_law_X6_hour rfl rfl rfl (by decide +kernel) ⟨(Nat.le_of_ble_eq_true rfl), (Nat.le_of_ble_eq_true rfl)⟩) ⟨qs_Pc.blind _ _ _ _, hG.recv hR.xL.1 hR.xL.2 (by decide) rfl, hG.pre _⟩ rfl rfl hl.1 rfl (lv_room (Nat.le_of_ble_eq_true rfl)) dL_law_1140 ⟨Nat.le_trans (Nat.le_add_right k 100) hkr, Nat.le_trans (Nat.le_add_right n 10500) hnr⟩) (fun v S1 H locs h hG => ?_)
  obtain ⟨ev, G1, hR1, ex1, hK1⟩ := h
  have hM1 := hM.fr hK1
  refine lv_aload_n hx hb dL_law_1143 rfl (lv_at hl 2 rfl) ?_
  refine qc_i hG (va_runV (As := []) (rest := [.int v]) ⟨hx, hb, hml, hown, hts⟩ (c_X7_hour l (ql_g g o f) _ S1 y (cm_hour (post := fun v1 S2 => ∃ M2, tx_M S2 y Hm M2 ∧ tx_J g.2.2.2.2.2.2.1 S1 S2 ∧ v1 = (tq_hour T).2.1 ∧ sm T M2) hM1 hS (fun S2 M2 v1 a b c d e => ⟨M2, a, b, d rfl, e⟩))) (cwV 0 hts gL_law_X7_hour rfl rfl rfl (by decide +kernel) ⟨(Nat.le_of_ble_eq_true rfl), (Nat.le_of_ble_eq_true rfl)⟩) ⟨qs_Pc.blind _ _ _ _, hG.recv hM1.y7.1 hM1.y7.2 (by decide) rfl, hG.pre _⟩ rfl rfl hl.1 rfl (lv_room (Nat.le_of_ble_eq_true rfl)) dL_law_1144 ⟨Nat.le_trans (Nat.le_add_right k 100) hkr, Nat.le_trans (Nat.le_add_right n 10500) hnr⟩) (fun v2 S2 H locs h hG => ?_)
  obtain ⟨M2, hM2, hJ, ev2, hS2⟩ := h
  rw [ev, ev2]
  refine lv_icmp_eq (tgt := 1882) hx hb dL_law_1147 (by decide) (fun _ => ?_) (fun c1 => absurd rfl c1)
  exact W.widen (k := k + 100) (n := n + 10500) (Nat.le_add_right k 100) (Nat.le_add_right n 10500) (K S2 G1 T Hm M2 f H locs ls ⟨hG, hR1.fr hJ, ex1, hM2, hS2, hI.mono (Nat.le_succ cn)⟩ hl)
end LWC

/-! ===== the law's cases 15 to 29 ===== -/
section LWC
variable {p : Program} {l : Launch} {e : Env} {s : State} {m : MethodId} {below : List Frame} {meth : Method} {c : Code} {b L : Nat} {xs : Nat → Int32} {g : qs_G} {o x y cn i k n : Nat}
set_option maxHeartbeats 1000000 in
set_option maxRecDepth 100000 in
theorem lw_c15 (hl9 : l.stackTraces = false) (C0 : lw_At p s m meth c b L xs) (hL : L ≤ 2560) (hi : i + 5 ≤ L) (hcn : cn ≤ 1000) (hkr : k + 100 ≤ 601024) (hnr : n + 10500 ≤ 7293034) (K : lw_K p l e s m below meth c b g o x y (cn + 1) i (k + 100) (n + 10500) 1882) {S : qs_S} {G : Nat → Nat → Nat} {T : tt_T} {Hm : Nat → Nat} {M : mm_M} {f : Nat → Int64} {H : Heap} {locs : List Loc} {ls : Array Slot} (st : lw_St g o s S G T Hm M f H locs x y cn) (hl : lv_has ls 7 [(0, .ref b), (1, .ref x), (2, .ref y), (3, .ref o), (4, .int (nI i))]) : W p l e room_1 s m #[Value.ref b] below meth c H locs k n (lw_Z below #[Value.ref b] s) (F0 m 1152 ls []) := by
  obtain ⟨hx, hb, hr, hml, hown, hts0, hX, hbl, hlocks, hgv⟩ := id C0
  have hts : ∀ w ∈ wsL_law, w.before #[Value.ref b] s = true := fun w h => hts0 w (wsL_law_in w h)
  obtain ⟨hG, hR, ex, hM, hS, hI⟩ := st
  have hbA : ¬ (fun q : Nat => s.heap.size ≤ q) b := Nat.not_le.mpr hbl
  subst ex
  refine lv_aload_n hx hb dL_law_1152 rfl (lv_at hl 1 rfl) ?_
  refine qc_i hG (va_runV (As := []) (rest := []) ⟨hx, hb, hml, hown, hts⟩ (c_X6_boxes l (ql_g g o f) _ S (G 6 0) (cq_boxes (post := fun v S1 => v = (tq_boxes T).2.1 ∧ ∃ G1, tx_R g.2.2.2.2.2.2.1 S1 G1 T ∧ G1 6 0 = G 6 0 ∧ tx_K g.2.2.2.2.2.2.1 S S1) (px := fun _ _ => True) hR ⟨fun _ S1 G1 a b k => ⟨rfl, G1, a, b, k⟩, fun _ => trivial, fun _ => trivial, fun _ => trivial⟩)) (cwV 0 hts gL_law_X6_boxes rfl rfl rfl (by decide +kernel) ⟨(Nat.le_of_ble_eq_true rfl), (Nat.le_of_ble_eq_true rfl)⟩) ⟨qs_Pc.blind _ _ _ _, hG.recv hR.xL.1 hR.xL.2 (by decide) rfl, hG.pre _⟩ rfl rfl hl.1 rfl (lv_room (Nat.le_of_ble_eq_true rfl)) dL_law_1153 ⟨Nat.le_trans (Nat.le_add_right k 100) hkr, Nat.le_trans (Nat.le_add_right n 10500) hnr⟩) (fun v S1 H locs h hG => ?_)
  obtain ⟨ev, G1, hR1, ex1, hK1⟩ := h
  have hM1 := hM.fr hK1
  refine lv_aload_n hx hb dL_law_1156 rfl (lv_at hl 2 rfl) ?_
  refine qc_i hG (va_runV (As := []) (rest := [.int v]) ⟨hx, hb, hml, hown, hts⟩ (c_X7_boxes l (ql_g g o f) _ S1 y (cm_boxes (post := fun v1 S2 => ∃ M2, tx_M S2 y Hm M2 ∧ tx_J g.2.2.2.2.2.2.1 S1 S2 ∧ v1 = (tq_boxes T).2.1 ∧ sm T M2) hM1 hS (fun S2 M2 v1 a b c d e => ⟨M2, a, b, d rfl, e⟩))) (cwV 0 hts gL_law_X7_boxes rfl rfl rfl (by decide +kernel) ⟨(Nat.le_of_ble_eq_true rfl), (Nat.le_of_ble_eq_true rfl)⟩) ⟨qs_Pc.blind _ _ _ _, hG.recv hM1.y7.1 hM1.y7.2 (by decide) rfl, hG.pre _⟩ rfl rfl hl.1 rfl (lv_room (Nat.le_of_ble_eq_true rfl)) dL_law_1157 ⟨Nat.le_trans (Nat.le_add_right k 100) hkr, Nat.le_trans (Nat.le_add_right n 10500) hnr⟩) (fun v2 S2 H locs h hG => ?_)
  obtain ⟨M2, hM2, hJ, ev2, hS2⟩ := h
  rw [ev, ev2]
  refine lv_icmp_eq (tgt := 1882) hx hb dL_law_1160 (by decide) (fun _ => ?_) (fun c1 => absurd rfl c1)
  exact W.widen (k := k + 100) (n := n + 10500) (Nat.le_add_right k 100) (Nat.le_add_right n 10500) (K S2 G1 T Hm M2 f H locs ls ⟨hG, hR1.fr hJ, ex1, hM2, hS2, hI.mono (Nat.le_succ cn)⟩ hl)
set_option maxHeartbeats 1000000 in
set_option maxRecDepth 100000 in
theorem lw_c16 (hl9 : l.stackTraces = false) (C0 : lw_At p s m meth c b L xs) (hL : L ≤ 2560) (hi : i + 5 ≤ L) (hcn : cn ≤ 1000) (hkr : k + 100 ≤ 601024) (hnr : n + 10500 ≤ 7293034) (K : lw_K p l e s m below meth c b g o x y (cn + 1) i (k + 100) (n + 10500) 1882) {S : qs_S} {G : Nat → Nat → Nat} {T : tt_T} {Hm : Nat → Nat} {M : mm_M} {f : Nat → Int64} {H : Heap} {locs : List Loc} {ls : Array Slot} (st : lw_St g o s S G T Hm M f H locs x y cn) (hl : lv_has ls 7 [(0, .ref b), (1, .ref x), (2, .ref y), (3, .ref o), (4, .int (nI i))]) : W p l e room_1 s m #[Value.ref b] below meth c H locs k n (lw_Z below #[Value.ref b] s) (F0 m 1165 ls []) := by
  obtain ⟨hx, hb, hr, hml, hown, hts0, hX, hbl, hlocks, hgv⟩ := id C0
  have hts : ∀ w ∈ wsL_law, w.before #[Value.ref b] s = true := fun w h => hts0 w (wsL_law_in w h)
  obtain ⟨hG, hR, ex, hM, hS, hI⟩ := st
  have hbA : ¬ (fun q : Nat => s.heap.size ≤ q) b := Nat.not_le.mpr hbl
  refine lv_aload_n hx hb dL_law_1165 rfl (lv_at hl 1 rfl) ?_
  refine lw_arg (a0 := 0) (a4 := 4) (i := i) (k := 1) hx hb hX hbl hbA hG.2.2.2.1 hl rfl rfl (by omega) hL (by decide) dL_law_1166 dL_law_1167 dL_law_1169 rfl dL_law_1170 dL_law_1171 ?_
  refine lv_aload_n hx hb dL_law_1172 rfl (lv_at hl 3 rfl) ?_
  have hh := ch_whereIs (f := f) (m9 := g.2.2.2.2.2.2.2) (p0 := xs (i + 1)) hR ex hI
  have hc := c_L_whereIs (mc := 100) (ms := 10500) (post := fun kv S1 f1 => lq g.2.2.2.2.2.2.1 S x cA Int32.toInt64 (tq_whereIs T (xs (i + 1))) kv S1 (f1 0)) l hl9 g o f H.size S x (xs (i + 1)) (by rw [← ex]; exact hR.xL) hh
  have cw : vx_CSW room_1 s #[Value.ref b] RL 166 yL_whereIs cL_whereIs 4 (some .int) [(0, 9, 12, 13)] wsL_whereIs ({ frames := 9, cells := 100, slots := 10500, locals := 154 } : Room) 100 10500 3 := vx_cwSW 3 hts gL_law_L_whereIs rfl rfl rfl (by decide +kernel) ⟨(Nat.le_of_ble_eq_true rfl), (Nat.le_of_ble_eq_true rfl)⟩
  have hroom : k + 100 ≤ room_1.cells ∧ n + 10500 ≤ room_1.slots := ⟨hkr, hnr⟩
  have hp : PreS s H (qs_Pc (ql_g g o f) H.size S [.ref x, .int (xs (i + 1)), .ref o]) [.ref x, .int (xs (i + 1)), .ref o] := ⟨qs_Pc.blind _ _ _ _, hG.pre _⟩
  have hrun := vx_runSX (e := e) (below := below) (meth := meth) (locs := locs) (cells := k) (slots := n) (g := F0 m 1173 ls [.ref o, .int (xs (i + 1)), .ref x]) (As := [.ref x, .int (xs (i + 1)), .ref o]) (rest := []) ⟨hx, hb, hml, hown, hts⟩ hc cw hp rfl rfl hl.1 rfl (lv_room (Nat.le_of_ble_eq_true rfl)) dL_law_1173 hroom
  refine ql_i hG hrun (fun kv S1 f1 H locs h hG => ?_)
  obtain ⟨hkv, hv, G1, hR1, ex1, hK1⟩ := h
  have hM1 := hM.fr hK1
  refine lv_istore (lv' := [(5, .int kv), (0, .ref b), (1, .ref x), (2, .ref y), (3, .ref o), (4, .int (nI i))]) hx hb dL_law_1176 hl (by decide) rfl (fun ls hl => ?_)
  refine lv_aload_n hx hb dL_law_1178 rfl (lv_at hl 3 rfl) ?_
  refine lw_arg (a0 := 1) (a4 := 5) (i := i) (k := 1) hx hb hX hbl hbA hG.2.2.2.1 hl rfl rfl (by omega) hL (by decide) dL_law_1179 dL_law_1180 dL_law_1182 rfl dL_law_1183 dL_law_1184 ?_
  refine qc_i hG (va_runV (As := [.int (xs (i + 1))]) (rest := []) ⟨hx, hb, hml, hown, hts⟩ (c_X7_whereIs l (ql_g g o f1) _ S1 y (xs (i + 1)) (cm_whereIs (post := fun v S2 => ∃ M2, tx_M S2 y Hm M2 ∧ tx_J g.2.2.2.2.2.2.1 S1 S2 ∧ mi M2 0 = nI (cA (tq_whereIs T (xs (i + 1))).1) ∧ ((tq_whereIs T (xs (i + 1))).1 = 0 → v = (tq_whereIs T (xs (i + 1))).2.1) ∧ sm (tq_whereIs T (xs (i + 1))).2.2 M2) hM1 hS hI (fun S2 M2 v a b c d e => ⟨M2, a, b, c, d, e⟩))) (cwV 1 hts gL_law_X7_whereIs rfl rfl rfl (by decide +kernel) ⟨(Nat.le_of_ble_eq_true rfl), (Nat.le_of_ble_eq_true rfl)⟩) ⟨qs_Pc.blind _ _ _ _, hG.recv hM1.y7.1 hM1.y7.2 (by decide) rfl, hG.pre _⟩ rfl rfl hl.1 rfl (lv_room (Nat.le_of_ble_eq_true rfl)) dL_law_1185 ⟨hkr, hnr⟩) (fun v S2 H locs h hG => ?_)
  obtain ⟨M2, hM2, hJ, h0, hv2, hS2⟩ := h
  refine lv_istore (lv' := [(6, .int v), (5, .int kv), (0, .ref b), (1, .ref x), (2, .ref y), (3, .ref o), (4, .int (nI i))]) hx hb dL_law_1188 hl (by decide) rfl (fun ls hl => ?_)
  exact lw_fin C0 K ⟨hG, hR1.fr hJ, ex1, hM2, hS2, te_whereIs hI⟩ hl (ok := (tq_whereIs T (xs (i + 1))).1 = 0) hkr hnr (hkv.trans h0.symm) (fun z => ccA0 tm_whereIs (hkv.symm.trans z)) (fun z => by rw [hv z, hv2 z]) dL_law_1190 dL_law_1191 dL_law_1194 dL_law_1196 dL_law_1201 dL_law_1203 dL_law_1206 dL_law_1207 dL_law_1208 dL_law_1209 dL_law_1211 dL_law_1212 dL_law_1213 dL_law_1218 (by decide)
set_option maxHeartbeats 1000000 in
set_option maxRecDepth 100000 in
theorem lw_c17 (hl9 : l.stackTraces = false) (C0 : lw_At p s m meth c b L xs) (hL : L ≤ 2560) (hi : i + 5 ≤ L) (hcn : cn ≤ 1000) (hkr : k + 100 ≤ 601024) (hnr : n + 10500 ≤ 7293034) (K : lw_K p l e s m below meth c b g o x y (cn + 1) i (k + 100) (n + 10500) 1882) {S : qs_S} {G : Nat → Nat → Nat} {T : tt_T} {Hm : Nat → Nat} {M : mm_M} {f : Nat → Int64} {H : Heap} {locs : List Loc} {ls : Array Slot} (st : lw_St g o s S G T Hm M f H locs x y cn) (hl : lv_has ls 7 [(0, .ref b), (1, .ref x), (2, .ref y), (3, .ref o), (4, .int (nI i))]) : W p l e room_1 s m #[Value.ref b] below meth c H locs k n (lw_Z below #[Value.ref b] s) (F0 m 1221 ls []) := by
  obtain ⟨hx, hb, hr, hml, hown, hts0, hX, hbl, hlocks, hgv⟩ := id C0
  have hts : ∀ w ∈ wsL_law, w.before #[Value.ref b] s = true := fun w h => hts0 w (wsL_law_in w h)
  obtain ⟨hG, hR, ex, hM, hS, hI⟩ := st
  have hbA : ¬ (fun q : Nat => s.heap.size ≤ q) b := Nat.not_le.mpr hbl
  refine lv_aload_n hx hb dL_law_1221 rfl (lv_at hl 1 rfl) ?_
  refine lw_arg (a0 := 0) (a4 := 4) (i := i) (k := 1) hx hb hX hbl hbA hG.2.2.2.1 hl rfl rfl (by omega) hL (by decide) dL_law_1222 dL_law_1223 dL_law_1225 rfl dL_law_1226 dL_law_1227 ?_
  refine lv_aload_n hx hb dL_law_1228 rfl (lv_at hl 3 rfl) ?_
  have hh := ch_whereByLog (f := f) (m9 := g.2.2.2.2.2.2.2) (p0 := xs (i + 1)) hR ex hI
  have hc := c_L_whereByLog (mc := 100) (ms := 10500) (post := fun kv S1 f1 => lq g.2.2.2.2.2.2.1 S x cA Int32.toInt64 (tq_whereByLog T (xs (i + 1))) kv S1 (f1 0)) l hl9 g o f H.size S x (xs (i + 1)) (by rw [← ex]; exact hR.xL) hh
  have cw : vx_CSW room_1 s #[Value.ref b] RL 169 yL_whereByLog cL_whereByLog 4 (some .int) [(0, 9, 12, 13)] wsL_whereByLog ({ frames := 9, cells := 100, slots := 10500, locals := 155 } : Room) 100 10500 3 := vx_cwSW 3 hts gL_law_L_whereByLog rfl rfl rfl (by decide +kernel) ⟨(Nat.le_of_ble_eq_true rfl), (Nat.le_of_ble_eq_true rfl)⟩
  have hroom : k + 100 ≤ room_1.cells ∧ n + 10500 ≤ room_1.slots := ⟨hkr, hnr⟩
  have hp : PreS s H (qs_Pc (ql_g g o f) H.size S [.ref x, .int (xs (i + 1)), .ref o]) [.ref x, .int (xs (i + 1)), .ref o] := ⟨qs_Pc.blind _ _ _ _, hG.pre _⟩
  have hrun := vx_runSX (e := e) (below := below) (meth := meth) (locs := locs) (cells := k) (slots := n) (g := F0 m 1229 ls [.ref o, .int (xs (i + 1)), .ref x]) (As := [.ref x, .int (xs (i + 1)), .ref o]) (rest := []) ⟨hx, hb, hml, hown, hts⟩ hc cw hp rfl rfl hl.1 rfl (lv_room (Nat.le_of_ble_eq_true rfl)) dL_law_1229 hroom
  refine ql_i hG hrun (fun kv S1 f1 H locs h hG => ?_)
  obtain ⟨hkv, hv, G1, hR1, ex1, hK1⟩ := h
  have hM1 := hM.fr hK1
  refine lv_istore (lv' := [(5, .int kv), (0, .ref b), (1, .ref x), (2, .ref y), (3, .ref o), (4, .int (nI i))]) hx hb dL_law_1232 hl (by decide) rfl (fun ls hl => ?_)
  refine lv_aload_n hx hb dL_law_1234 rfl (lv_at hl 3 rfl) ?_
  refine lw_arg (a0 := 1) (a4 := 5) (i := i) (k := 1) hx hb hX hbl hbA hG.2.2.2.1 hl rfl rfl (by omega) hL (by decide) dL_law_1235 dL_law_1236 dL_law_1238 rfl dL_law_1239 dL_law_1240 ?_
  refine qc_i hG (va_runV (As := [.int (xs (i + 1))]) (rest := []) ⟨hx, hb, hml, hown, hts⟩ (c_X7_whereByLog l (ql_g g o f1) _ S1 y (xs (i + 1)) (cm_whereByLog (post := fun v S2 => ∃ M2, tx_M S2 y Hm M2 ∧ tx_J g.2.2.2.2.2.2.1 S1 S2 ∧ mi M2 0 = nI (cA (tq_whereByLog T (xs (i + 1))).1) ∧ ((tq_whereByLog T (xs (i + 1))).1 = 0 → v = (tq_whereByLog T (xs (i + 1))).2.1) ∧ sm (tq_whereByLog T (xs (i + 1))).2.2 M2) hM1 hS hI (by omega) (fun S2 M2 v a b c d e => ⟨M2, a, b, c, d, e⟩))) (cwV 1 hts gL_law_X7_whereByLog rfl rfl rfl (by decide +kernel) ⟨(Nat.le_of_ble_eq_true rfl), (Nat.le_of_ble_eq_true rfl)⟩) ⟨qs_Pc.blind _ _ _ _, hG.recv hM1.y7.1 hM1.y7.2 (by decide) rfl, hG.pre _⟩ rfl rfl hl.1 rfl (lv_room (Nat.le_of_ble_eq_true rfl)) dL_law_1241 ⟨hkr, hnr⟩) (fun v S2 H locs h hG => ?_)
  obtain ⟨M2, hM2, hJ, h0, hv2, hS2⟩ := h
  refine lv_istore (lv' := [(6, .int v), (5, .int kv), (0, .ref b), (1, .ref x), (2, .ref y), (3, .ref o), (4, .int (nI i))]) hx hb dL_law_1244 hl (by decide) rfl (fun ls hl => ?_)
  exact lw_fin C0 K ⟨hG, hR1.fr hJ, ex1, hM2, hS2, te_whereByLog hI⟩ hl (ok := (tq_whereByLog T (xs (i + 1))).1 = 0) hkr hnr (hkv.trans h0.symm) (fun z => ccA0 tm_whereByLog (hkv.symm.trans z)) (fun z => by rw [hv z, hv2 z]) dL_law_1246 dL_law_1247 dL_law_1250 dL_law_1252 dL_law_1257 dL_law_1259 dL_law_1262 dL_law_1263 dL_law_1264 dL_law_1265 dL_law_1267 dL_law_1268 dL_law_1269 dL_law_1274 (by decide)
set_option maxHeartbeats 1000000 in
set_option maxRecDepth 100000 in
theorem lw_c18 (hl9 : l.stackTraces = false) (C0 : lw_At p s m meth c b L xs) (hL : L ≤ 2560) (hi : i + 5 ≤ L) (hcn : cn ≤ 1000) (hkr : k + 100 ≤ 601024) (hnr : n + 10500 ≤ 7293034) (K : lw_K p l e s m below meth c b g o x y (cn + 1) i (k + 100) (n + 10500) 1882) {S : qs_S} {G : Nat → Nat → Nat} {T : tt_T} {Hm : Nat → Nat} {M : mm_M} {f : Nat → Int64} {H : Heap} {locs : List Loc} {ls : Array Slot} (st : lw_St g o s S G T Hm M f H locs x y cn) (hl : lv_has ls 7 [(0, .ref b), (1, .ref x), (2, .ref y), (3, .ref o), (4, .int (nI i))]) : W p l e room_1 s m #[Value.ref b] below meth c H locs k n (lw_Z below #[Value.ref b] s) (F0 m 1277 ls []) := by
  obtain ⟨hx, hb, hr, hml, hown, hts0, hX, hbl, hlocks, hgv⟩ := id C0
  have hts : ∀ w ∈ wsL_law, w.before #[Value.ref b] s = true := fun w h => hts0 w (wsL_law_in w h)
  obtain ⟨hG, hR, ex, hM, hS, hI⟩ := st
  have hbA : ¬ (fun q : Nat => s.heap.size ≤ q) b := Nat.not_le.mpr hbl
  refine lv_aload_n hx hb dL_law_1277 rfl (lv_at hl 1 rfl) ?_
  refine lw_arg (a0 := 0) (a4 := 4) (i := i) (k := 1) hx hb hX hbl hbA hG.2.2.2.1 hl rfl rfl (by omega) hL (by decide) dL_law_1278 dL_law_1279 dL_law_1281 rfl dL_law_1282 dL_law_1283 ?_
  refine lv_aload_n hx hb dL_law_1284 rfl (lv_at hl 3 rfl) ?_
  have hh := ch_liftedBy (f := f) (m9 := g.2.2.2.2.2.2.2) (p0 := xs (i + 1)) hR ex hI
  have hc := c_L_liftedBy (mc := 100) (ms := 10500) (post := fun kv S1 f1 => lq g.2.2.2.2.2.2.1 S x cA Int32.toInt64 (tq_boxI 5 T (xs (i + 1))) kv S1 (f1 0)) l hl9 g o f H.size S x (xs (i + 1)) (by rw [← ex]; exact hR.xL) hh
  have cw : vx_CSW room_1 s #[Value.ref b] RL 172 yL_liftedBy cL_liftedBy 4 (some .int) [(0, 9, 12, 13)] wsL_liftedBy ({ frames := 9, cells := 100, slots := 10500, locals := 153 } : Room) 100 10500 3 := vx_cwSW 3 hts gL_law_L_liftedBy rfl rfl rfl (by decide +kernel) ⟨(Nat.le_of_ble_eq_true rfl), (Nat.le_of_ble_eq_true rfl)⟩
  have hroom : k + 100 ≤ room_1.cells ∧ n + 10500 ≤ room_1.slots := ⟨hkr, hnr⟩
  have hp : PreS s H (qs_Pc (ql_g g o f) H.size S [.ref x, .int (xs (i + 1)), .ref o]) [.ref x, .int (xs (i + 1)), .ref o] := ⟨qs_Pc.blind _ _ _ _, hG.pre _⟩
  have hrun := vx_runSX (e := e) (below := below) (meth := meth) (locs := locs) (cells := k) (slots := n) (g := F0 m 1285 ls [.ref o, .int (xs (i + 1)), .ref x]) (As := [.ref x, .int (xs (i + 1)), .ref o]) (rest := []) ⟨hx, hb, hml, hown, hts⟩ hc cw hp rfl rfl hl.1 rfl (lv_room (Nat.le_of_ble_eq_true rfl)) dL_law_1285 hroom
  refine ql_i hG hrun (fun kv S1 f1 H locs h hG => ?_)
  obtain ⟨hkv, hv, G1, hR1, ex1, hK1⟩ := h
  have hM1 := hM.fr hK1
  refine lv_istore (lv' := [(5, .int kv), (0, .ref b), (1, .ref x), (2, .ref y), (3, .ref o), (4, .int (nI i))]) hx hb dL_law_1288 hl (by decide) rfl (fun ls hl => ?_)
  refine lv_aload_n hx hb dL_law_1290 rfl (lv_at hl 3 rfl) ?_
  refine lw_arg (a0 := 1) (a4 := 5) (i := i) (k := 1) hx hb hX hbl hbA hG.2.2.2.1 hl rfl rfl (by omega) hL (by decide) dL_law_1291 dL_law_1292 dL_law_1294 rfl dL_law_1295 dL_law_1296 ?_
  refine qc_i hG (va_runV (As := [.int (xs (i + 1))]) (rest := []) ⟨hx, hb, hml, hown, hts⟩ (c_X7_liftedBy l (ql_g g o f1) _ S1 y (xs (i + 1)) (cm_liftedBy (post := fun v S2 => ∃ M2, tx_M S2 y Hm M2 ∧ tx_J g.2.2.2.2.2.2.1 S1 S2 ∧ mi M2 0 = nI (cA (tq_boxI 5 T (xs (i + 1))).1) ∧ ((tq_boxI 5 T (xs (i + 1))).1 = 0 → v = (tq_boxI 5 T (xs (i + 1))).2.1) ∧ sm (tq_boxI 5 T (xs (i + 1))).2.2 M2) hM1 hS hI (fun S2 M2 v a b c d e => ⟨M2, a, b, c, d, e⟩))) (cwV 1 hts gL_law_X7_liftedBy rfl rfl rfl (by decide +kernel) ⟨(Nat.le_of_ble_eq_true rfl), (Nat.le_of_ble_eq_true rfl)⟩) ⟨qs_Pc.blind _ _ _ _, hG.recv hM1.y7.1 hM1.y7.2 (by decide) rfl, hG.pre _⟩ rfl rfl hl.1 rfl (lv_room (Nat.le_of_ble_eq_true rfl)) dL_law_1297 ⟨hkr, hnr⟩) (fun v S2 H locs h hG => ?_)
  obtain ⟨M2, hM2, hJ, h0, hv2, hS2⟩ := h
  refine lv_istore (lv' := [(6, .int v), (5, .int kv), (0, .ref b), (1, .ref x), (2, .ref y), (3, .ref o), (4, .int (nI i))]) hx hb dL_law_1300 hl (by decide) rfl (fun ls hl => ?_)
  exact lw_fin C0 K ⟨hG, hR1.fr hJ, ex1, hM2, hS2, te_liftedBy hI⟩ hl (ok := (tq_boxI 5 T (xs (i + 1))).1 = 0) hkr hnr (hkv.trans h0.symm) (fun z => ccA0 tm_liftedBy (hkv.symm.trans z)) (fun z => by rw [hv z, hv2 z]) dL_law_1302 dL_law_1303 dL_law_1306 dL_law_1308 dL_law_1313 dL_law_1315 dL_law_1318 dL_law_1319 dL_law_1320 dL_law_1321 dL_law_1323 dL_law_1324 dL_law_1325 dL_law_1330 (by decide)
set_option maxHeartbeats 1000000 in
set_option maxRecDepth 100000 in
theorem lw_c19 (hl9 : l.stackTraces = false) (C0 : lw_At p s m meth c b L xs) (hL : L ≤ 2560) (hi : i + 5 ≤ L) (hcn : cn ≤ 1000) (hkr : k + 100 ≤ 601024) (hnr : n + 10500 ≤ 7293034) (K : lw_K p l e s m below meth c b g o x y (cn + 1) i (k + 100) (n + 10500) 1882) {S : qs_S} {G : Nat → Nat → Nat} {T : tt_T} {Hm : Nat → Nat} {M : mm_M} {f : Nat → Int64} {H : Heap} {locs : List Loc} {ls : Array Slot} (st : lw_St g o s S G T Hm M f H locs x y cn) (hl : lv_has ls 7 [(0, .ref b), (1, .ref x), (2, .ref y), (3, .ref o), (4, .int (nI i))]) : W p l e room_1 s m #[Value.ref b] below meth c H locs k n (lw_Z below #[Value.ref b] s) (F0 m 1333 ls []) := by
  obtain ⟨hx, hb, hr, hml, hown, hts0, hX, hbl, hlocks, hgv⟩ := id C0
  have hts : ∀ w ∈ wsL_law, w.before #[Value.ref b] s = true := fun w h => hts0 w (wsL_law_in w h)
  obtain ⟨hG, hR, ex, hM, hS, hI⟩ := st
  have hbA : ¬ (fun q : Nat => s.heap.size ≤ q) b := Nat.not_le.mpr hbl
  refine lv_aload_n hx hb dL_law_1333 rfl (lv_at hl 1 rfl) ?_
  refine lw_arg (a0 := 0) (a4 := 4) (i := i) (k := 1) hx hb hX hbl hbA hG.2.2.2.1 hl rfl rfl (by omega) hL (by decide) dL_law_1334 dL_law_1335 dL_law_1337 rfl dL_law_1338 dL_law_1339 ?_
  refine lv_aload_n hx hb dL_law_1340 rfl (lv_at hl 3 rfl) ?_
  have hh := ch_bookedFor (f := f) (m9 := g.2.2.2.2.2.2.2) (p0 := xs (i + 1)) hR ex hI
  have hc := c_L_bookedFor (mc := 100) (ms := 10500) (post := fun kv S1 f1 => lq g.2.2.2.2.2.2.1 S x cA Int32.toInt64 (tq_boxI 7 T (xs (i + 1))) kv S1 (f1 0)) l hl9 g o f H.size S x (xs (i + 1)) (by rw [← ex]; exact hR.xL) hh
  have cw : vx_CSW room_1 s #[Value.ref b] RL 175 yL_bookedFor cL_bookedFor 4 (some .int) [(0, 9, 12, 13)] wsL_bookedFor ({ frames := 9, cells := 100, slots := 10500, locals := 153 } : Room) 100 10500 3 := vx_cwSW 3 hts gL_law_L_bookedFor rfl rfl rfl (by decide +kernel) ⟨(Nat.le_of_ble_eq_true rfl), (Nat.le_of_ble_eq_true rfl)⟩
  have hroom : k + 100 ≤ room_1.cells ∧ n + 10500 ≤ room_1.slots := ⟨hkr, hnr⟩
  have hp : PreS s H (qs_Pc (ql_g g o f) H.size S [.ref x, .int (xs (i + 1)), .ref o]) [.ref x, .int (xs (i + 1)), .ref o] := ⟨qs_Pc.blind _ _ _ _, hG.pre _⟩
  have hrun := vx_runSX (e := e) (below := below) (meth := meth) (locs := locs) (cells := k) (slots := n) (g := F0 m 1341 ls [.ref o, .int (xs (i + 1)), .ref x]) (As := [.ref x, .int (xs (i + 1)), .ref o]) (rest := []) ⟨hx, hb, hml, hown, hts⟩ hc cw hp rfl rfl hl.1 rfl (lv_room (Nat.le_of_ble_eq_true rfl)) dL_law_1341 hroom
  refine ql_i hG hrun (fun kv S1 f1 H locs h hG => ?_)
  obtain ⟨hkv, hv, G1, hR1, ex1, hK1⟩ := h
  have hM1 := hM.fr hK1
  refine lv_istore (lv' := [(5, .int kv), (0, .ref b), (1, .ref x), (2, .ref y), (3, .ref o), (4, .int (nI i))]) hx hb dL_law_1344 hl (by decide) rfl (fun ls hl => ?_)
  refine lv_aload_n hx hb dL_law_1346 rfl (lv_at hl 3 rfl) ?_
  refine lw_arg (a0 := 1) (a4 := 5) (i := i) (k := 1) hx hb hX hbl hbA hG.2.2.2.1 hl rfl rfl (by omega) hL (by decide) dL_law_1347 dL_law_1348 dL_law_1350 rfl dL_law_1351 dL_law_1352 ?_
  refine qc_i hG (va_runV (As := [.int (xs (i + 1))]) (rest := []) ⟨hx, hb, hml, hown, hts⟩ (c_X7_bookedFor l (ql_g g o f1) _ S1 y (xs (i + 1)) (cm_bookedFor (post := fun v S2 => ∃ M2, tx_M S2 y Hm M2 ∧ tx_J g.2.2.2.2.2.2.1 S1 S2 ∧ mi M2 0 = nI (cA (tq_boxI 7 T (xs (i + 1))).1) ∧ ((tq_boxI 7 T (xs (i + 1))).1 = 0 → v = (tq_boxI 7 T (xs (i + 1))).2.1) ∧ sm (tq_boxI 7 T (xs (i + 1))).2.2 M2) hM1 hS hI (fun S2 M2 v a b c d e => ⟨M2, a, b, c, d, e⟩))) (cwV 1 hts gL_law_X7_bookedFor rfl rfl rfl (by decide +kernel) ⟨(Nat.le_of_ble_eq_true rfl), (Nat.le_of_ble_eq_true rfl)⟩) ⟨qs_Pc.blind _ _ _ _, hG.recv hM1.y7.1 hM1.y7.2 (by decide) rfl, hG.pre _⟩ rfl rfl hl.1 rfl (lv_room (Nat.le_of_ble_eq_true rfl)) dL_law_1353 ⟨hkr, hnr⟩) (fun v S2 H locs h hG => ?_)
  obtain ⟨M2, hM2, hJ, h0, hv2, hS2⟩ := h
  refine lv_istore (lv' := [(6, .int v), (5, .int kv), (0, .ref b), (1, .ref x), (2, .ref y), (3, .ref o), (4, .int (nI i))]) hx hb dL_law_1356 hl (by decide) rfl (fun ls hl => ?_)
  exact lw_fin C0 K ⟨hG, hR1.fr hJ, ex1, hM2, hS2, te_bookedFor hI⟩ hl (ok := (tq_boxI 7 T (xs (i + 1))).1 = 0) hkr hnr (hkv.trans h0.symm) (fun z => ccA0 tm_bookedFor (hkv.symm.trans z)) (fun z => by rw [hv z, hv2 z]) dL_law_1358 dL_law_1359 dL_law_1362 dL_law_1364 dL_law_1369 dL_law_1371 dL_law_1374 dL_law_1375 dL_law_1376 dL_law_1377 dL_law_1379 dL_law_1380 dL_law_1381 dL_law_1386 (by decide)
set_option maxHeartbeats 1000000 in
set_option maxRecDepth 100000 in
theorem lw_c20 (hl9 : l.stackTraces = false) (C0 : lw_At p s m meth c b L xs) (hL : L ≤ 2560) (hi : i + 5 ≤ L) (hcn : cn ≤ 1000) (hkr : k + 100 ≤ 601024) (hnr : n + 10500 ≤ 7293034) (K : lw_K p l e s m below meth c b g o x y (cn + 1) i (k + 100) (n + 10500) 1882) {S : qs_S} {G : Nat → Nat → Nat} {T : tt_T} {Hm : Nat → Nat} {M : mm_M} {f : Nat → Int64} {H : Heap} {locs : List Loc} {ls : Array Slot} (st : lw_St g o s S G T Hm M f H locs x y cn) (hl : lv_has ls 7 [(0, .ref b), (1, .ref x), (2, .ref y), (3, .ref o), (4, .int (nI i))]) : W p l e room_1 s m #[Value.ref b] below meth c H locs k n (lw_Z below #[Value.ref b] s) (F0 m 1389 ls []) := by
  obtain ⟨hx, hb, hr, hml, hown, hts0, hX, hbl, hlocks, hgv⟩ := id C0
  have hts : ∀ w ∈ wsL_law, w.before #[Value.ref b] s = true := fun w h => hts0 w (wsL_law_in w h)
  obtain ⟨hG, hR, ex, hM, hS, hI⟩ := st
  have hbA : ¬ (fun q : Nat => s.heap.size ≤ q) b := Nat.not_le.mpr hbl
  refine lv_aload_n hx hb dL_law_1389 rfl (lv_at hl 1 rfl) ?_
  refine lw_arg (a0 := 0) (a4 := 4) (i := i) (k := 1) hx hb hX hbl hbA hG.2.2.2.1 hl rfl rfl (by omega) hL (by decide) dL_law_1390 dL_law_1391 dL_law_1393 rfl dL_law_1394 dL_law_1395 ?_
  refine lv_aload_n hx hb dL_law_1396 rfl (lv_at hl 3 rfl) ?_
  have hh := ch_placeOf (f := f) (m9 := g.2.2.2.2.2.2.2) (p0 := xs (i + 1)) hR ex hI
  have hc := c_L_placeOf (mc := 100) (ms := 10500) (post := fun kv S1 f1 => lq g.2.2.2.2.2.2.1 S x cA Int32.toInt64 (tq_placeOf T (xs (i + 1))) kv S1 (f1 0)) l hl9 g o f H.size S x (xs (i + 1)) (by rw [← ex]; exact hR.xL) hh
  have cw : vx_CSW room_1 s #[Value.ref b] RL 178 yL_placeOf cL_placeOf 4 (some .int) [(0, 9, 12, 13)] wsL_placeOf ({ frames := 9, cells := 100, slots := 10500, locals := 153 } : Room) 100 10500 3 := vx_cwSW 3 hts gL_law_L_placeOf rfl rfl rfl (by decide +kernel) ⟨(Nat.le_of_ble_eq_true rfl), (Nat.le_of_ble_eq_true rfl)⟩
  have hroom : k + 100 ≤ room_1.cells ∧ n + 10500 ≤ room_1.slots := ⟨hkr, hnr⟩
  have hp : PreS s H (qs_Pc (ql_g g o f) H.size S [.ref x, .int (xs (i + 1)), .ref o]) [.ref x, .int (xs (i + 1)), .ref o] := ⟨qs_Pc.blind _ _ _ _, hG.pre _⟩
  have hrun := vx_runSX (e := e) (below := below) (meth := meth) (locs := locs) (cells := k) (slots := n) (g := F0 m 1397 ls [.ref o, .int (xs (i + 1)), .ref x]) (As := [.ref x, .int (xs (i + 1)), .ref o]) (rest := []) ⟨hx, hb, hml, hown, hts⟩ hc cw hp rfl rfl hl.1 rfl (lv_room (Nat.le_of_ble_eq_true rfl)) dL_law_1397 hroom
  refine ql_i hG hrun (fun kv S1 f1 H locs h hG => ?_)
  obtain ⟨hkv, hv, G1, hR1, ex1, hK1⟩ := h
  have hM1 := hM.fr hK1
  refine lv_istore (lv' := [(5, .int kv), (0, .ref b), (1, .ref x), (2, .ref y), (3, .ref o), (4, .int (nI i))]) hx hb dL_law_1400 hl (by decide) rfl (fun ls hl => ?_)
  refine lv_aload_n hx hb dL_law_1402 rfl (lv_at hl 3 rfl) ?_
  refine lw_arg (a0 := 1) (a4 := 5) (i := i) (k := 1) hx hb hX hbl hbA hG.2.2.2.1 hl rfl rfl (by omega) hL (by decide) dL_law_1403 dL_law_1404 dL_law_1406 rfl dL_law_1407 dL_law_1408 ?_
  refine qc_i hG (va_runV (As := [.int (xs (i + 1))]) (rest := []) ⟨hx, hb, hml, hown, hts⟩ (c_X7_placeOf l (ql_g g o f1) _ S1 y (xs (i + 1)) (cm_placeOf (post := fun v S2 => ∃ M2, tx_M S2 y Hm M2 ∧ tx_J g.2.2.2.2.2.2.1 S1 S2 ∧ mi M2 0 = nI (cA (tq_placeOf T (xs (i + 1))).1) ∧ ((tq_placeOf T (xs (i + 1))).1 = 0 → v = (tq_placeOf T (xs (i + 1))).2.1) ∧ sm (tq_placeOf T (xs (i + 1))).2.2 M2) hM1 hS (fun S2 M2 v a b c d e => ⟨M2, a, b, c, d, e⟩))) (cwV 1 hts gL_law_X7_placeOf rfl rfl rfl (by decide +kernel) ⟨(Nat.le_of_ble_eq_true rfl), (Nat.le_of_ble_eq_true rfl)⟩) ⟨qs_Pc.blind _ _ _ _, hG.recv hM1.y7.1 hM1.y7.2 (by decide) rfl, hG.pre _⟩ rfl rfl hl.1 rfl (lv_room (Nat.le_of_ble_eq_true rfl)) dL_law_1409 ⟨hkr, hnr⟩) (fun v S2 H locs h hG => ?_)
  obtain ⟨M2, hM2, hJ, h0, hv2, hS2⟩ := h
  refine lv_istore (lv' := [(6, .int v), (5, .int kv), (0, .ref b), (1, .ref x), (2, .ref y), (3, .ref o), (4, .int (nI i))]) hx hb dL_law_1412 hl (by decide) rfl (fun ls hl => ?_)
  exact lw_fin C0 K ⟨hG, hR1.fr hJ, ex1, hM2, hS2, te_placeOf hI⟩ hl (ok := (tq_placeOf T (xs (i + 1))).1 = 0) hkr hnr (hkv.trans h0.symm) (fun z => ccA0 tm_placeOf (hkv.symm.trans z)) (fun z => by rw [hv z, hv2 z]) dL_law_1414 dL_law_1415 dL_law_1418 dL_law_1420 dL_law_1425 dL_law_1427 dL_law_1430 dL_law_1431 dL_law_1432 dL_law_1433 dL_law_1435 dL_law_1436 dL_law_1437 dL_law_1442 (by decide)
set_option maxHeartbeats 1000000 in
set_option maxRecDepth 100000 in
theorem lw_c21 (hl9 : l.stackTraces = false) (C0 : lw_At p s m meth c b L xs) (hL : L ≤ 2560) (hi : i + 5 ≤ L) (hcn : cn ≤ 1000) (hkr : k + 100 ≤ 601024) (hnr : n + 10500 ≤ 7293034) (K : lw_K p l e s m below meth c b g o x y (cn + 1) i (k + 100) (n + 10500) 1882) {S : qs_S} {G : Nat → Nat → Nat} {T : tt_T} {Hm : Nat → Nat} {M : mm_M} {f : Nat → Int64} {H : Heap} {locs : List Loc} {ls : Array Slot} (st : lw_St g o s S G T Hm M f H locs x y cn) (hl : lv_has ls 7 [(0, .ref b), (1, .ref x), (2, .ref y), (3, .ref o), (4, .int (nI i))]) : W p l e room_1 s m #[Value.ref b] below meth c H locs k n (lw_Z below #[Value.ref b] s) (F0 m 1445 ls []) := by
  obtain ⟨hx, hb, hr, hml, hown, hts0, hX, hbl, hlocks, hgv⟩ := id C0
  have hts : ∀ w ∈ wsL_law, w.before #[Value.ref b] s = true := fun w h => hts0 w (wsL_law_in w h)
  obtain ⟨hG, hR, ex, hM, hS, hI⟩ := st
  have hbA : ¬ (fun q : Nat => s.heap.size ≤ q) b := Nat.not_le.mpr hbl
  refine lv_aload_n hx hb dL_law_1445 rfl (lv_at hl 1 rfl) ?_
  refine lw_arg (a0 := 0) (a4 := 4) (i := i) (k := 1) hx hb hX hbl hbA hG.2.2.2.1 hl rfl rfl (by omega) hL (by decide) dL_law_1446 dL_law_1447 dL_law_1449 rfl dL_law_1450 dL_law_1451 ?_
  refine lv_aload_n hx hb dL_law_1452 rfl (lv_at hl 3 rfl) ?_
  have hh := ch_height (f := f) (m9 := g.2.2.2.2.2.2.2) (p0 := xs (i + 1)) hR ex hI
  have hc := c_L_height (mc := 100) (ms := 10500) (post := fun kv S1 f1 => lq g.2.2.2.2.2.2.1 S x cA Int32.toInt64 (tq_height T (xs (i + 1))) kv S1 (f1 0)) l hl9 g o f H.size S x (xs (i + 1)) (by rw [← ex]; exact hR.xL) hh
  have cw : vx_CSW room_1 s #[Value.ref b] RL 181 yL_height cL_height 4 (some .int) [(0, 9, 12, 13)] wsL_height ({ frames := 8, cells := 100, slots := 10500, locals := 132 } : Room) 100 10500 3 := vx_cwSW 3 hts gL_law_L_height rfl rfl rfl (by decide +kernel) ⟨(Nat.le_of_ble_eq_true rfl), (Nat.le_of_ble_eq_true rfl)⟩
  have hroom : k + 100 ≤ room_1.cells ∧ n + 10500 ≤ room_1.slots := ⟨hkr, hnr⟩
  have hp : PreS s H (qs_Pc (ql_g g o f) H.size S [.ref x, .int (xs (i + 1)), .ref o]) [.ref x, .int (xs (i + 1)), .ref o] := ⟨qs_Pc.blind _ _ _ _, hG.pre _⟩
  have hrun := vx_runSX (e := e) (below := below) (meth := meth) (locs := locs) (cells := k) (slots := n) (g := F0 m 1453 ls [.ref o, .int (xs (i + 1)), .ref x]) (As := [.ref x, .int (xs (i + 1)), .ref o]) (rest := []) ⟨hx, hb, hml, hown, hts⟩ hc cw hp rfl rfl hl.1 rfl (lv_room (Nat.le_of_ble_eq_true rfl)) dL_law_1453 hroom
  refine ql_i hG hrun (fun kv S1 f1 H locs h hG => ?_)
  obtain ⟨hkv, hv, G1, hR1, ex1, hK1⟩ := h
  have hM1 := hM.fr hK1
  refine lv_istore (lv' := [(5, .int kv), (0, .ref b), (1, .ref x), (2, .ref y), (3, .ref o), (4, .int (nI i))]) hx hb dL_law_1456 hl (by decide) rfl (fun ls hl => ?_)
  refine lv_aload_n hx hb dL_law_1458 rfl (lv_at hl 3 rfl) ?_
  refine lw_arg (a0 := 1) (a4 := 5) (i := i) (k := 1) hx hb hX hbl hbA hG.2.2.2.1 hl rfl rfl (by omega) hL (by decide) dL_law_1459 dL_law_1460 dL_law_1462 rfl dL_law_1463 dL_law_1464 ?_
  refine qc_i hG (va_runV (As := [.int (xs (i + 1))]) (rest := []) ⟨hx, hb, hml, hown, hts⟩ (c_X7_height l (ql_g g o f1) _ S1 y (xs (i + 1)) (cm_height (post := fun v S2 => ∃ M2, tx_M S2 y Hm M2 ∧ tx_J g.2.2.2.2.2.2.1 S1 S2 ∧ mi M2 0 = nI (cA (tq_height T (xs (i + 1))).1) ∧ ((tq_height T (xs (i + 1))).1 = 0 → v = (tq_height T (xs (i + 1))).2.1) ∧ sm (tq_height T (xs (i + 1))).2.2 M2) hM1 hS (fun S2 M2 v a b c d e => ⟨M2, a, b, c, d, e⟩))) (cwV 1 hts gL_law_X7_height rfl rfl rfl (by decide +kernel) ⟨(Nat.le_of_ble_eq_true rfl), (Nat.le_of_ble_eq_true rfl)⟩) ⟨qs_Pc.blind _ _ _ _, hG.recv hM1.y7.1 hM1.y7.2 (by decide) rfl, hG.pre _⟩ rfl rfl hl.1 rfl (lv_room (Nat.le_of_ble_eq_true rfl)) dL_law_1465 ⟨hkr, hnr⟩) (fun v S2 H locs h hG => ?_)
  obtain ⟨M2, hM2, hJ, h0, hv2, hS2⟩ := h
  refine lv_istore (lv' := [(6, .int v), (5, .int kv), (0, .ref b), (1, .ref x), (2, .ref y), (3, .ref o), (4, .int (nI i))]) hx hb dL_law_1468 hl (by decide) rfl (fun ls hl => ?_)
  exact lw_fin C0 K ⟨hG, hR1.fr hJ, ex1, hM2, hS2, te_height hI⟩ hl (ok := (tq_height T (xs (i + 1))).1 = 0) hkr hnr (hkv.trans h0.symm) (fun z => ccA0 tm_height (hkv.symm.trans z)) (fun z => by rw [hv z, hv2 z]) dL_law_1470 dL_law_1471 dL_law_1474 dL_law_1476 dL_law_1481 dL_law_1483 dL_law_1486 dL_law_1487 dL_law_1488 dL_law_1489 dL_law_1491 dL_law_1492 dL_law_1493 dL_law_1498 (by decide)
set_option maxHeartbeats 1000000 in
set_option maxRecDepth 100000 in
theorem lw_c22 (hl9 : l.stackTraces = false) (C0 : lw_At p s m meth c b L xs) (hL : L ≤ 2560) (hi : i + 5 ≤ L) (hcn : cn ≤ 1000) (hkr : k + 100 ≤ 601024) (hnr : n + 10500 ≤ 7293034) (K : lw_K p l e s m below meth c b g o x y (cn + 1) i (k + 100) (n + 10500) 1882) {S : qs_S} {G : Nat → Nat → Nat} {T : tt_T} {Hm : Nat → Nat} {M : mm_M} {f : Nat → Int64} {H : Heap} {locs : List Loc} {ls : Array Slot} (st : lw_St g o s S G T Hm M f H locs x y cn) (hl : lv_has ls 7 [(0, .ref b), (1, .ref x), (2, .ref y), (3, .ref o), (4, .int (nI i))]) : W p l e room_1 s m #[Value.ref b] below meth c H locs k n (lw_Z below #[Value.ref b] s) (F0 m 1501 ls []) := by
  obtain ⟨hx, hb, hr, hml, hown, hts0, hX, hbl, hlocks, hgv⟩ := id C0
  have hts : ∀ w ∈ wsL_law, w.before #[Value.ref b] s = true := fun w h => hts0 w (wsL_law_in w h)
  obtain ⟨hG, hR, ex, hM, hS, hI⟩ := st
  have hbA : ¬ (fun q : Nat => s.heap.size ≤ q) b := Nat.not_le.mpr hbl
  refine lv_aload_n hx hb dL_law_1501 rfl (lv_at hl 1 rfl) ?_
  refine lw_arg (a0 := 0) (a4 := 4) (i := i) (k := 1) hx hb hX hbl hbA hG.2.2.2.1 hl rfl rfl (by omega) hL (by decide) dL_law_1502 dL_law_1503 dL_law_1505 rfl dL_law_1506 dL_law_1507 ?_
  refine lv_aload_n hx hb dL_law_1508 rfl (lv_at hl 3 rfl) ?_
  have hh := ch_queue (f := f) (m9 := g.2.2.2.2.2.2.2) (p0 := xs (i + 1)) hR ex hI
  have hc := c_L_queue (mc := 100) (ms := 10500) (post := fun kv S1 f1 => lq g.2.2.2.2.2.2.1 S x cA Int32.toInt64 (tq_queue T (xs (i + 1))) kv S1 (f1 0)) l hl9 g o f H.size S x (xs (i + 1)) (by rw [← ex]; exact hR.xL) hh
  have cw : vx_CSW room_1 s #[Value.ref b] RL 184 yL_queue cL_queue 4 (some .int) [(0, 9, 12, 13)] wsL_queue ({ frames := 10, cells := 100, slots := 10500, locals := 174 } : Room) 100 10500 3 := vx_cwSW 3 hts gL_law_L_queue rfl rfl rfl (by decide +kernel) ⟨(Nat.le_of_ble_eq_true rfl), (Nat.le_of_ble_eq_true rfl)⟩
  have hroom : k + 100 ≤ room_1.cells ∧ n + 10500 ≤ room_1.slots := ⟨hkr, hnr⟩
  have hp : PreS s H (qs_Pc (ql_g g o f) H.size S [.ref x, .int (xs (i + 1)), .ref o]) [.ref x, .int (xs (i + 1)), .ref o] := ⟨qs_Pc.blind _ _ _ _, hG.pre _⟩
  have hrun := vx_runSX (e := e) (below := below) (meth := meth) (locs := locs) (cells := k) (slots := n) (g := F0 m 1509 ls [.ref o, .int (xs (i + 1)), .ref x]) (As := [.ref x, .int (xs (i + 1)), .ref o]) (rest := []) ⟨hx, hb, hml, hown, hts⟩ hc cw hp rfl rfl hl.1 rfl (lv_room (Nat.le_of_ble_eq_true rfl)) dL_law_1509 hroom
  refine ql_i hG hrun (fun kv S1 f1 H locs h hG => ?_)
  obtain ⟨hkv, hv, G1, hR1, ex1, hK1⟩ := h
  have hM1 := hM.fr hK1
  refine lv_istore (lv' := [(5, .int kv), (0, .ref b), (1, .ref x), (2, .ref y), (3, .ref o), (4, .int (nI i))]) hx hb dL_law_1512 hl (by decide) rfl (fun ls hl => ?_)
  refine lv_aload_n hx hb dL_law_1514 rfl (lv_at hl 3 rfl) ?_
  refine lw_arg (a0 := 1) (a4 := 5) (i := i) (k := 1) hx hb hX hbl hbA hG.2.2.2.1 hl rfl rfl (by omega) hL (by decide) dL_law_1515 dL_law_1516 dL_law_1518 rfl dL_law_1519 dL_law_1520 ?_
  refine qc_i hG (va_runV (As := [.int (xs (i + 1))]) (rest := []) ⟨hx, hb, hml, hown, hts⟩ (c_X7_queue l (ql_g g o f1) _ S1 y (xs (i + 1)) (cm_queue (post := fun v S2 => ∃ M2, tx_M S2 y Hm M2 ∧ tx_J g.2.2.2.2.2.2.1 S1 S2 ∧ mi M2 0 = nI (cA (tq_queue T (xs (i + 1))).1) ∧ ((tq_queue T (xs (i + 1))).1 = 0 → v = (tq_queue T (xs (i + 1))).2.1) ∧ sm (tq_queue T (xs (i + 1))).2.2 M2) hM1 hS (fun S2 M2 v a b c d e => ⟨M2, a, b, c, d, e⟩))) (cwV 1 hts gL_law_X7_queue rfl rfl rfl (by decide +kernel) ⟨(Nat.le_of_ble_eq_true rfl), (Nat.le_of_ble_eq_true rfl)⟩) ⟨qs_Pc.blind _ _ _ _, hG.recv hM1.y7.1 hM1.y7.2 (by decide) rfl, hG.pre _⟩ rfl rfl hl.1 rfl (lv_room (Nat.le_of_ble_eq_true rfl)) dL_law_1521 ⟨hkr, hnr⟩) (fun v S2 H locs h hG => ?_)
  obtain ⟨M2, hM2, hJ, h0, hv2, hS2⟩ := h
  refine lv_istore (lv' := [(6, .int v), (5, .int kv), (0, .ref b), (1, .ref x), (2, .ref y), (3, .ref o), (4, .int (nI i))]) hx hb dL_law_1524 hl (by decide) rfl (fun ls hl => ?_)
  exact lw_fin C0 K ⟨hG, hR1.fr hJ, ex1, hM2, hS2, te_queue hI⟩ hl (ok := (tq_queue T (xs (i + 1))).1 = 0) hkr hnr (hkv.trans h0.symm) (fun z => ccA0 tm_queue (hkv.symm.trans z)) (fun z => by rw [hv z, hv2 z]) dL_law_1526 dL_law_1527 dL_law_1530 dL_law_1532 dL_law_1537 dL_law_1539 dL_law_1542 dL_law_1543 dL_law_1544 dL_law_1545 dL_law_1547 dL_law_1548 dL_law_1549 dL_law_1554 (by decide)
set_option maxHeartbeats 1000000 in
set_option maxRecDepth 100000 in
theorem lw_c23 (hl9 : l.stackTraces = false) (C0 : lw_At p s m meth c b L xs) (hL : L ≤ 2560) (hi : i + 5 ≤ L) (hcn : cn ≤ 1000) (hkr : k + 100 ≤ 601024) (hnr : n + 10500 ≤ 7293034) (K : lw_K p l e s m below meth c b g o x y (cn + 1) i (k + 100) (n + 10500) 1882) {S : qs_S} {G : Nat → Nat → Nat} {T : tt_T} {Hm : Nat → Nat} {M : mm_M} {f : Nat → Int64} {H : Heap} {locs : List Loc} {ls : Array Slot} (st : lw_St g o s S G T Hm M f H locs x y cn) (hl : lv_has ls 7 [(0, .ref b), (1, .ref x), (2, .ref y), (3, .ref o), (4, .int (nI i))]) : W p l e room_1 s m #[Value.ref b] below meth c H locs k n (lw_Z below #[Value.ref b] s) (F0 m 1557 ls []) := by
  obtain ⟨hx, hb, hr, hml, hown, hts0, hX, hbl, hlocks, hgv⟩ := id C0
  have hts : ∀ w ∈ wsL_law, w.before #[Value.ref b] s = true := fun w h => hts0 w (wsL_law_in w h)
  obtain ⟨hG, hR, ex, hM, hS, hI⟩ := st
  have hbA : ¬ (fun q : Nat => s.heap.size ≤ q) b := Nat.not_le.mpr hbl
  refine lv_aload_n hx hb dL_law_1557 rfl (lv_at hl 1 rfl) ?_
  refine lw_arg (a0 := 0) (a4 := 4) (i := i) (k := 1) hx hb hX hbl hbA hG.2.2.2.1 hl rfl rfl (by omega) hL (by decide) dL_law_1558 dL_law_1559 dL_law_1561 rfl dL_law_1562 dL_law_1563 ?_
  refine lw_arg (a0 := 0) (a4 := 4) (i := i) (k := 2) hx hb hX hbl hbA hG.2.2.2.1 hl rfl rfl (by omega) hL (by decide) dL_law_1564 dL_law_1565 dL_law_1567 rfl dL_law_1568 dL_law_1569 ?_
  refine lv_aload_n hx hb dL_law_1570 rfl (lv_at hl 3 rfl) ?_
  have hh := ch_queued (f := f) (m9 := g.2.2.2.2.2.2.2) (p0 := xs (i + 1)) (p1 := xs (i + 2)) hR ex hI
  have hc := c_L_queued (mc := 100) (ms := 10500) (post := fun kv S1 f1 => lq g.2.2.2.2.2.2.1 S x cA Int32.toInt64 (tq_queued T (xs (i + 1)) (xs (i + 2))) kv S1 (f1 0)) l hl9 g o f H.size S x (xs (i + 1)) (xs (i + 2)) (by rw [← ex]; exact hR.xL) hh
  have cw : vx_CSW room_1 s #[Value.ref b] RL 187 yL_queued cL_queued 5 (some .int) [(0, 10, 13, 13)] wsL_queued ({ frames := 10, cells := 100, slots := 10500, locals := 175 } : Room) 100 10500 4 := vx_cwSW 4 hts gL_law_L_queued rfl rfl rfl (by decide +kernel) ⟨(Nat.le_of_ble_eq_true rfl), (Nat.le_of_ble_eq_true rfl)⟩
  have hroom : k + 100 ≤ room_1.cells ∧ n + 10500 ≤ room_1.slots := ⟨hkr, hnr⟩
  have hp : PreS s H (qs_Pc (ql_g g o f) H.size S [.ref x, .int (xs (i + 1)), .int (xs (i + 2)), .ref o]) [.ref x, .int (xs (i + 1)), .int (xs (i + 2)), .ref o] := ⟨qs_Pc.blind _ _ _ _, hG.pre _⟩
  have hrun := vx_runSX (e := e) (below := below) (meth := meth) (locs := locs) (cells := k) (slots := n) (g := F0 m 1571 ls [.ref o, .int (xs (i + 2)), .int (xs (i + 1)), .ref x]) (As := [.ref x, .int (xs (i + 1)), .int (xs (i + 2)), .ref o]) (rest := []) ⟨hx, hb, hml, hown, hts⟩ hc cw hp rfl rfl hl.1 rfl (lv_room (Nat.le_of_ble_eq_true rfl)) dL_law_1571 hroom
  refine ql_i hG hrun (fun kv S1 f1 H locs h hG => ?_)
  obtain ⟨hkv, hv, G1, hR1, ex1, hK1⟩ := h
  have hM1 := hM.fr hK1
  refine lv_istore (lv' := [(5, .int kv), (0, .ref b), (1, .ref x), (2, .ref y), (3, .ref o), (4, .int (nI i))]) hx hb dL_law_1574 hl (by decide) rfl (fun ls hl => ?_)
  refine lv_aload_n hx hb dL_law_1576 rfl (lv_at hl 3 rfl) ?_
  refine lw_arg (a0 := 1) (a4 := 5) (i := i) (k := 1) hx hb hX hbl hbA hG.2.2.2.1 hl rfl rfl (by omega) hL (by decide) dL_law_1577 dL_law_1578 dL_law_1580 rfl dL_law_1581 dL_law_1582 ?_
  refine lw_arg (a0 := 1) (a4 := 5) (i := i) (k := 2) hx hb hX hbl hbA hG.2.2.2.1 hl rfl rfl (by omega) hL (by decide) dL_law_1583 dL_law_1584 dL_law_1586 rfl dL_law_1587 dL_law_1588 ?_
  refine qc_i hG (va_runV (As := [.int (xs (i + 1)), .int (xs (i + 2))]) (rest := []) ⟨hx, hb, hml, hown, hts⟩ (c_X7_queued l (ql_g g o f1) _ S1 y (xs (i + 1)) (xs (i + 2)) (cm_queued (post := fun v S2 => ∃ M2, tx_M S2 y Hm M2 ∧ tx_J g.2.2.2.2.2.2.1 S1 S2 ∧ mi M2 0 = nI (cA (tq_queued T (xs (i + 1)) (xs (i + 2))).1) ∧ ((tq_queued T (xs (i + 1)) (xs (i + 2))).1 = 0 → v = (tq_queued T (xs (i + 1)) (xs (i + 2))).2.1) ∧ sm (tq_queued T (xs (i + 1)) (xs (i + 2))).2.2 M2) hM1 hS hI (fun S2 M2 v a b c d e => ⟨M2, a, b, c, d, e⟩))) (cwV 2 hts gL_law_X7_queued rfl rfl rfl (by decide +kernel) ⟨(Nat.le_of_ble_eq_true rfl), (Nat.le_of_ble_eq_true rfl)⟩) ⟨qs_Pc.blind _ _ _ _, hG.recv hM1.y7.1 hM1.y7.2 (by decide) rfl, hG.pre _⟩ rfl rfl hl.1 rfl (lv_room (Nat.le_of_ble_eq_true rfl)) dL_law_1589 ⟨hkr, hnr⟩) (fun v S2 H locs h hG => ?_)
  obtain ⟨M2, hM2, hJ, h0, hv2, hS2⟩ := h
  refine lv_istore (lv' := [(6, .int v), (5, .int kv), (0, .ref b), (1, .ref x), (2, .ref y), (3, .ref o), (4, .int (nI i))]) hx hb dL_law_1592 hl (by decide) rfl (fun ls hl => ?_)
  exact lw_fin C0 K ⟨hG, hR1.fr hJ, ex1, hM2, hS2, te_queued hI⟩ hl (ok := (tq_queued T (xs (i + 1)) (xs (i + 2))).1 = 0) hkr hnr (hkv.trans h0.symm) (fun z => ccA0 tm_queued (hkv.symm.trans z)) (fun z => by rw [hv z, hv2 z]) dL_law_1594 dL_law_1595 dL_law_1598 dL_law_1600 dL_law_1605 dL_law_1607 dL_law_1610 dL_law_1611 dL_law_1612 dL_law_1613 dL_law_1615 dL_law_1616 dL_law_1617 dL_law_1622 (by decide)
set_option maxHeartbeats 1000000 in
set_option maxRecDepth 100000 in
theorem lw_c24 (hl9 : l.stackTraces = false) (C0 : lw_At p s m meth c b L xs) (hL : L ≤ 2560) (hi : i + 5 ≤ L) (hcn : cn ≤ 1000) (hkr : k + 100 ≤ 601024) (hnr : n + 10500 ≤ 7293034) (K : lw_K p l e s m below meth c b g o x y (cn + 1) i (k + 100) (n + 10500) 1882) {S : qs_S} {G : Nat → Nat → Nat} {T : tt_T} {Hm : Nat → Nat} {M : mm_M} {f : Nat → Int64} {H : Heap} {locs : List Loc} {ls : Array Slot} (st : lw_St g o s S G T Hm M f H locs x y cn) (hl : lv_has ls 7 [(0, .ref b), (1, .ref x), (2, .ref y), (3, .ref o), (4, .int (nI i))]) : W p l e room_1 s m #[Value.ref b] below meth c H locs k n (lw_Z below #[Value.ref b] s) (F0 m 1625 ls []) := by
  obtain ⟨hx, hb, hr, hml, hown, hts0, hX, hbl, hlocks, hgv⟩ := id C0
  have hts : ∀ w ∈ wsL_law, w.before #[Value.ref b] s = true := fun w h => hts0 w (wsL_law_in w h)
  obtain ⟨hG, hR, ex, hM, hS, hI⟩ := st
  have hbA : ¬ (fun q : Nat => s.heap.size ≤ q) b := Nat.not_le.mpr hbl
  refine lv_aload_n hx hb dL_law_1625 rfl (lv_at hl 1 rfl) ?_
  refine lw_arg (a0 := 0) (a4 := 4) (i := i) (k := 1) hx hb hX hbl hbA hG.2.2.2.1 hl rfl rfl (by omega) hL (by decide) dL_law_1626 dL_law_1627 dL_law_1629 rfl dL_law_1630 dL_law_1631 ?_
  refine lv_aload_n hx hb dL_law_1632 rfl (lv_at hl 3 rfl) ?_
  have hh := ch_seen (f := f) (m9 := g.2.2.2.2.2.2.2) (p0 := xs (i + 1)) hR ex hI
  have hc := c_L_seen (mc := 100) (ms := 10500) (post := fun kv S1 f1 => lq g.2.2.2.2.2.2.1 S x cA Int32.toInt64 (tq_seen T (xs (i + 1))) kv S1 (f1 0)) l hl9 g o f H.size S x (xs (i + 1)) (by rw [← ex]; exact hR.xL) hh
  have cw : vx_CSW room_1 s #[Value.ref b] RL 190 yL_seen cL_seen 4 (some .int) [(0, 9, 12, 13)] wsL_seen ({ frames := 8, cells := 100, slots := 10500, locals := 133 } : Room) 100 10500 3 := vx_cwSW 3 hts gL_law_L_seen rfl rfl rfl (by decide +kernel) ⟨(Nat.le_of_ble_eq_true rfl), (Nat.le_of_ble_eq_true rfl)⟩
  have hroom : k + 100 ≤ room_1.cells ∧ n + 10500 ≤ room_1.slots := ⟨hkr, hnr⟩
  have hp : PreS s H (qs_Pc (ql_g g o f) H.size S [.ref x, .int (xs (i + 1)), .ref o]) [.ref x, .int (xs (i + 1)), .ref o] := ⟨qs_Pc.blind _ _ _ _, hG.pre _⟩
  have hrun := vx_runSX (e := e) (below := below) (meth := meth) (locs := locs) (cells := k) (slots := n) (g := F0 m 1633 ls [.ref o, .int (xs (i + 1)), .ref x]) (As := [.ref x, .int (xs (i + 1)), .ref o]) (rest := []) ⟨hx, hb, hml, hown, hts⟩ hc cw hp rfl rfl hl.1 rfl (lv_room (Nat.le_of_ble_eq_true rfl)) dL_law_1633 hroom
  refine ql_i hG hrun (fun kv S1 f1 H locs h hG => ?_)
  obtain ⟨hkv, hv, G1, hR1, ex1, hK1⟩ := h
  have hM1 := hM.fr hK1
  refine lv_istore (lv' := [(5, .int kv), (0, .ref b), (1, .ref x), (2, .ref y), (3, .ref o), (4, .int (nI i))]) hx hb dL_law_1636 hl (by decide) rfl (fun ls hl => ?_)
  refine lv_aload_n hx hb dL_law_1638 rfl (lv_at hl 3 rfl) ?_
  refine lw_arg (a0 := 1) (a4 := 5) (i := i) (k := 1) hx hb hX hbl hbA hG.2.2.2.1 hl rfl rfl (by omega) hL (by decide) dL_law_1639 dL_law_1640 dL_law_1642 rfl dL_law_1643 dL_law_1644 ?_
  refine qc_i hG (va_runV (As := [.int (xs (i + 1))]) (rest := []) ⟨hx, hb, hml, hown, hts⟩ (c_X7_seen l (ql_g g o f1) _ S1 y (xs (i + 1)) (cm_seen (post := fun v S2 => ∃ M2, tx_M S2 y Hm M2 ∧ tx_J g.2.2.2.2.2.2.1 S1 S2 ∧ mi M2 0 = nI (cA (tq_seen T (xs (i + 1))).1) ∧ ((tq_seen T (xs (i + 1))).1 = 0 → v = (tq_seen T (xs (i + 1))).2.1) ∧ sm (tq_seen T (xs (i + 1))).2.2 M2) hM1 hS (fun S2 M2 v a b c d e => ⟨M2, a, b, c, d, e⟩))) (cwV 1 hts gL_law_X7_seen rfl rfl rfl (by decide +kernel) ⟨(Nat.le_of_ble_eq_true rfl), (Nat.le_of_ble_eq_true rfl)⟩) ⟨qs_Pc.blind _ _ _ _, hG.recv hM1.y7.1 hM1.y7.2 (by decide) rfl, hG.pre _⟩ rfl rfl hl.1 rfl (lv_room (Nat.le_of_ble_eq_true rfl)) dL_law_1645 ⟨hkr, hnr⟩) (fun v S2 H locs h hG => ?_)
  obtain ⟨M2, hM2, hJ, h0, hv2, hS2⟩ := h
  refine lv_istore (lv' := [(6, .int v), (5, .int kv), (0, .ref b), (1, .ref x), (2, .ref y), (3, .ref o), (4, .int (nI i))]) hx hb dL_law_1648 hl (by decide) rfl (fun ls hl => ?_)
  exact lw_fin C0 K ⟨hG, hR1.fr hJ, ex1, hM2, hS2, te_seen hI⟩ hl (ok := (tq_seen T (xs (i + 1))).1 = 0) hkr hnr (hkv.trans h0.symm) (fun z => ccA0 tm_seen (hkv.symm.trans z)) (fun z => by rw [hv z, hv2 z]) dL_law_1650 dL_law_1651 dL_law_1654 dL_law_1656 dL_law_1661 dL_law_1663 dL_law_1666 dL_law_1667 dL_law_1668 dL_law_1669 dL_law_1671 dL_law_1672 dL_law_1673 dL_law_1678 (by decide)
set_option maxHeartbeats 1000000 in
set_option maxRecDepth 100000 in
theorem lw_c25 (hl9 : l.stackTraces = false) (C0 : lw_At p s m meth c b L xs) (hL : L ≤ 2560) (hi : i + 5 ≤ L) (hcn : cn ≤ 1000) (hkr : k + 100 ≤ 601024) (hnr : n + 10500 ≤ 7293034) (K : lw_K p l e s m below meth c b g o x y (cn + 1) i (k + 100) (n + 10500) 1882) {S : qs_S} {G : Nat → Nat → Nat} {T : tt_T} {Hm : Nat → Nat} {M : mm_M} {f : Nat → Int64} {H : Heap} {locs : List Loc} {ls : Array Slot} (st : lw_St g o s S G T Hm M f H locs x y cn) (hl : lv_has ls 7 [(0, .ref b), (1, .ref x), (2, .ref y), (3, .ref o), (4, .int (nI i))]) : W p l e room_1 s m #[Value.ref b] below meth c H locs k n (lw_Z below #[Value.ref b] s) (F0 m 1681 ls []) := by
  obtain ⟨hx, hb, hr, hml, hown, hts0, hX, hbl, hlocks, hgv⟩ := id C0
  have hts : ∀ w ∈ wsL_law, w.before #[Value.ref b] s = true := fun w h => hts0 w (wsL_law_in w h)
  obtain ⟨hG, hR, ex, hM, hS, hI⟩ := st
  have hbA : ¬ (fun q : Nat => s.heap.size ≤ q) b := Nat.not_le.mpr hbl
  refine lv_aload_n hx hb dL_law_1681 rfl (lv_at hl 1 rfl) ?_
  refine lw_arg (a0 := 0) (a4 := 4) (i := i) (k := 1) hx hb hX hbl hbA hG.2.2.2.1 hl rfl rfl (by omega) hL (by decide) dL_law_1682 dL_law_1683 dL_law_1685 rfl dL_law_1686 dL_law_1687 ?_
  refine lv_aload_n hx hb dL_law_1688 rfl (lv_at hl 3 rfl) ?_
  have hh := ch_handed (f := f) (m9 := g.2.2.2.2.2.2.2) (p0 := xs (i + 1)) hR ex hI
  have hc := c_L_handed (mc := 100) (ms := 10500) (post := fun kv S1 f1 => lq g.2.2.2.2.2.2.1 S x cA Int32.toInt64 (tq_handed T (xs (i + 1))) kv S1 (f1 0)) l hl9 g o f H.size S x (xs (i + 1)) (by rw [← ex]; exact hR.xL) hh
  have cw : vx_CSW room_1 s #[Value.ref b] RL 193 yL_handed cL_handed 4 (some .int) [(0, 9, 12, 13)] wsL_handed ({ frames := 9, cells := 100, slots := 10500, locals := 153 } : Room) 100 10500 3 := vx_cwSW 3 hts gL_law_L_handed rfl rfl rfl (by decide +kernel) ⟨(Nat.le_of_ble_eq_true rfl), (Nat.le_of_ble_eq_true rfl)⟩
  have hroom : k + 100 ≤ room_1.cells ∧ n + 10500 ≤ room_1.slots := ⟨hkr, hnr⟩
  have hp : PreS s H (qs_Pc (ql_g g o f) H.size S [.ref x, .int (xs (i + 1)), .ref o]) [.ref x, .int (xs (i + 1)), .ref o] := ⟨qs_Pc.blind _ _ _ _, hG.pre _⟩
  have hrun := vx_runSX (e := e) (below := below) (meth := meth) (locs := locs) (cells := k) (slots := n) (g := F0 m 1689 ls [.ref o, .int (xs (i + 1)), .ref x]) (As := [.ref x, .int (xs (i + 1)), .ref o]) (rest := []) ⟨hx, hb, hml, hown, hts⟩ hc cw hp rfl rfl hl.1 rfl (lv_room (Nat.le_of_ble_eq_true rfl)) dL_law_1689 hroom
  refine ql_i hG hrun (fun kv S1 f1 H locs h hG => ?_)
  obtain ⟨hkv, hv, G1, hR1, ex1, hK1⟩ := h
  have hM1 := hM.fr hK1
  refine lv_istore (lv' := [(5, .int kv), (0, .ref b), (1, .ref x), (2, .ref y), (3, .ref o), (4, .int (nI i))]) hx hb dL_law_1692 hl (by decide) rfl (fun ls hl => ?_)
  refine lv_aload_n hx hb dL_law_1694 rfl (lv_at hl 3 rfl) ?_
  refine lw_arg (a0 := 1) (a4 := 5) (i := i) (k := 1) hx hb hX hbl hbA hG.2.2.2.1 hl rfl rfl (by omega) hL (by decide) dL_law_1695 dL_law_1696 dL_law_1698 rfl dL_law_1699 dL_law_1700 ?_
  refine qc_i hG (va_runV (As := [.int (xs (i + 1))]) (rest := []) ⟨hx, hb, hml, hown, hts⟩ (c_X7_handed l (ql_g g o f1) _ S1 y (xs (i + 1)) (cm_handed (post := fun v S2 => ∃ M2, tx_M S2 y Hm M2 ∧ tx_J g.2.2.2.2.2.2.1 S1 S2 ∧ mi M2 0 = nI (cA (tq_handed T (xs (i + 1))).1) ∧ ((tq_handed T (xs (i + 1))).1 = 0 → v = (tq_handed T (xs (i + 1))).2.1) ∧ sm (tq_handed T (xs (i + 1))).2.2 M2) hM1 hS hI (fun S2 M2 v a b c d e => ⟨M2, a, b, c, d, e⟩))) (cwV 1 hts gL_law_X7_handed rfl rfl rfl (by decide +kernel) ⟨(Nat.le_of_ble_eq_true rfl), (Nat.le_of_ble_eq_true rfl)⟩) ⟨qs_Pc.blind _ _ _ _, hG.recv hM1.y7.1 hM1.y7.2 (by decide) rfl, hG.pre _⟩ rfl rfl hl.1 rfl (lv_room (Nat.le_of_ble_eq_true rfl)) dL_law_1701 ⟨hkr, hnr⟩) (fun v S2 H locs h hG => ?_)
  obtain ⟨M2, hM2, hJ, h0, hv2, hS2⟩ := h
  refine lv_istore (lv' := [(6, .int v), (5, .int kv), (0, .ref b), (1, .ref x), (2, .ref y), (3, .ref o), (4, .int (nI i))]) hx hb dL_law_1704 hl (by decide) rfl (fun ls hl => ?_)
  exact lw_fin C0 K ⟨hG, hR1.fr hJ, ex1, hM2, hS2, te_handed hI⟩ hl (ok := (tq_handed T (xs (i + 1))).1 = 0) hkr hnr (hkv.trans h0.symm) (fun z => ccA0 tm_handed (hkv.symm.trans z)) (fun z => by rw [hv z, hv2 z]) dL_law_1706 dL_law_1707 dL_law_1710 dL_law_1712 dL_law_1717 dL_law_1719 dL_law_1722 dL_law_1723 dL_law_1724 dL_law_1725 dL_law_1727 dL_law_1728 dL_law_1729 dL_law_1734 (by decide)
set_option maxHeartbeats 1000000 in
set_option maxRecDepth 100000 in
theorem lw_c26 (hl9 : l.stackTraces = false) (C0 : lw_At p s m meth c b L xs) (hL : L ≤ 2560) (hi : i + 5 ≤ L) (hcn : cn ≤ 1000) (hkr : k + 100 ≤ 601024) (hnr : n + 10500 ≤ 7293034) (K : lw_K p l e s m below meth c b g o x y (cn + 1) i (k + 100) (n + 10500) 1882) {S : qs_S} {G : Nat → Nat → Nat} {T : tt_T} {Hm : Nat → Nat} {M : mm_M} {f : Nat → Int64} {H : Heap} {locs : List Loc} {ls : Array Slot} (st : lw_St g o s S G T Hm M f H locs x y cn) (hl : lv_has ls 7 [(0, .ref b), (1, .ref x), (2, .ref y), (3, .ref o), (4, .int (nI i))]) : W p l e room_1 s m #[Value.ref b] below meth c H locs k n (lw_Z below #[Value.ref b] s) (F0 m 1737 ls []) := by
  obtain ⟨hx, hb, hr, hml, hown, hts0, hX, hbl, hlocks, hgv⟩ := id C0
  have hts : ∀ w ∈ wsL_law, w.before #[Value.ref b] s = true := fun w h => hts0 w (wsL_law_in w h)
  obtain ⟨hG, hR, ex, hM, hS, hI⟩ := st
  have hbA : ¬ (fun q : Nat => s.heap.size ≤ q) b := Nat.not_le.mpr hbl
  refine lv_aload_n hx hb dL_law_1737 rfl (lv_at hl 1 rfl) ?_
  refine lw_arg (a0 := 0) (a4 := 4) (i := i) (k := 1) hx hb hX hbl hbA hG.2.2.2.1 hl rfl rfl (by omega) hL (by decide) dL_law_1738 dL_law_1739 dL_law_1741 rfl dL_law_1742 dL_law_1743 ?_
  refine lv_aload_n hx hb dL_law_1744 rfl (lv_at hl 3 rfl) ?_
  have hh := ch_isDone (f := f) (m9 := g.2.2.2.2.2.2.2) (p0 := xs (i + 1)) hR ex hI
  have hc := c_L_isDone (mc := 100) (ms := 10500) (post := fun kv S1 f1 => lq g.2.2.2.2.2.2.1 S x cA lb (tq_isDone T (xs (i + 1))) kv S1 (f1 0)) l hl9 g o f H.size S x (xs (i + 1)) (by rw [← ex]; exact hR.xL) hh
  have cw : vx_CSW room_1 s #[Value.ref b] RL 196 yL_isDone cL_isDone 4 (some .int) [(0, 16, 19, 13)] wsL_isDone ({ frames := 9, cells := 100, slots := 10500, locals := 153 } : Room) 100 10500 3 := vx_cwSW 3 hts gL_law_L_isDone rfl rfl rfl (by decide +kernel) ⟨(Nat.le_of_ble_eq_true rfl), (Nat.le_of_ble_eq_true rfl)⟩
  have hroom : k + 100 ≤ room_1.cells ∧ n + 10500 ≤ room_1.slots := ⟨hkr, hnr⟩
  have hp : PreS s H (qs_Pc (ql_g g o f) H.size S [.ref x, .int (xs (i + 1)), .ref o]) [.ref x, .int (xs (i + 1)), .ref o] := ⟨qs_Pc.blind _ _ _ _, hG.pre _⟩
  have hrun := vx_runSX (e := e) (below := below) (meth := meth) (locs := locs) (cells := k) (slots := n) (g := F0 m 1745 ls [.ref o, .int (xs (i + 1)), .ref x]) (As := [.ref x, .int (xs (i + 1)), .ref o]) (rest := []) ⟨hx, hb, hml, hown, hts⟩ hc cw hp rfl rfl hl.1 rfl (lv_room (Nat.le_of_ble_eq_true rfl)) dL_law_1745 hroom
  refine ql_i hG hrun (fun kv S1 f1 H locs h hG => ?_)
  obtain ⟨hkv, hv, G1, hR1, ex1, hK1⟩ := h
  have hM1 := hM.fr hK1
  refine lv_istore (lv' := [(5, .int kv), (0, .ref b), (1, .ref x), (2, .ref y), (3, .ref o), (4, .int (nI i))]) hx hb dL_law_1748 hl (by decide) rfl (fun ls hl => ?_)
  refine lv_aload_n hx hb dL_law_1750 rfl (lv_at hl 3 rfl) ?_
  refine lw_arg (a0 := 1) (a4 := 5) (i := i) (k := 1) hx hb hX hbl hbA hG.2.2.2.1 hl rfl rfl (by omega) hL (by decide) dL_law_1751 dL_law_1752 dL_law_1754 rfl dL_law_1755 dL_law_1756 ?_
  refine qc_i hG (va_runV (As := [.int (xs (i + 1))]) (rest := []) ⟨hx, hb, hml, hown, hts⟩ (c_X7_isDone l (ql_g g o f1) _ S1 y (xs (i + 1)) (cm_isDone (post := fun v S2 => ∃ M2, tx_M S2 y Hm M2 ∧ tx_J g.2.2.2.2.2.2.1 S1 S2 ∧ mi M2 0 = nI (cA (tq_isDone T (xs (i + 1))).1) ∧ ((tq_isDone T (xs (i + 1))).1 = 0 → v = (tq_isDone T (xs (i + 1))).2.1) ∧ sm (tq_isDone T (xs (i + 1))).2.2 M2) hM1 hS hI (by omega) (fun S2 M2 v a b c d e => ⟨M2, a, b, c, d, e⟩))) (cwV 1 hts gL_law_X7_isDone rfl rfl rfl (by decide +kernel) ⟨(Nat.le_of_ble_eq_true rfl), (Nat.le_of_ble_eq_true rfl)⟩) ⟨qs_Pc.blind _ _ _ _, hG.recv hM1.y7.1 hM1.y7.2 (by decide) rfl, hG.pre _⟩ rfl rfl hl.1 rfl (lv_room (Nat.le_of_ble_eq_true rfl)) dL_law_1757 ⟨hkr, hnr⟩) (fun v S2 H locs h hG => ?_)
  obtain ⟨M2, hM2, hJ, h0, hv2, hS2⟩ := h
  refine lv_istore (lv' := [(6, .int v), (5, .int kv), (0, .ref b), (1, .ref x), (2, .ref y), (3, .ref o), (4, .int (nI i))]) hx hb dL_law_1760 hl (by decide) rfl (fun ls hl => ?_)
  exact lw_finB C0 K ⟨hG, hR1.fr hJ, ex1, hM2, hS2, te_isDone hI⟩ hl (ok := (tq_isDone T (xs (i + 1))).1 = 0) hkr hnr (hkv.trans h0.symm) (fun z => ccA0 tm_isDone (hkv.symm.trans z)) (fun z => by rw [hv z, hv2 z]) dL_law_1762 dL_law_1763 dL_law_1766 dL_law_1768 dL_law_1773 dL_law_1775 dL_law_1778 dL_law_1779 dL_law_1780 dL_law_1781 dL_law_1783 dL_law_1786 dL_law_1787 dL_law_1790 dL_law_1791 dL_law_1792 dL_law_1797 (by decide)
set_option maxHeartbeats 1000000 in
set_option maxRecDepth 100000 in
theorem lw_c27 (hl9 : l.stackTraces = false) (C0 : lw_At p s m meth c b L xs) (hL : L ≤ 2560) (hi : i + 5 ≤ L) (hcn : cn ≤ 1000) (hkr : k + 100 ≤ 601024) (hnr : n + 10500 ≤ 7293034) (K : lw_K p l e s m below meth c b g o x y (cn + 1) i (k + 100) (n + 10500) 1882) {S : qs_S} {G : Nat → Nat → Nat} {T : tt_T} {Hm : Nat → Nat} {M : mm_M} {f : Nat → Int64} {H : Heap} {locs : List Loc} {ls : Array Slot} (st : lw_St g o s S G T Hm M f H locs x y cn) (hl : lv_has ls 7 [(0, .ref b), (1, .ref x), (2, .ref y), (3, .ref o), (4, .int (nI i))]) : W p l e room_1 s m #[Value.ref b] below meth c H locs k n (lw_Z below #[Value.ref b] s) (F0 m 1800 ls []) := by
  obtain ⟨hx, hb, hr, hml, hown, hts0, hX, hbl, hlocks, hgv⟩ := id C0
  have hts : ∀ w ∈ wsL_law, w.before #[Value.ref b] s = true := fun w h => hts0 w (wsL_law_in w h)
  obtain ⟨hG, hR, ex, hM, hS, hI⟩ := st
  have hbA : ¬ (fun q : Nat => s.heap.size ≤ q) b := Nat.not_le.mpr hbl
  subst ex
  refine lv_aload_n hx hb dL_law_1800 rfl (lv_at hl 1 rfl) ?_
  refine qc_i hG (va_runV (As := []) (rest := []) ⟨hx, hb, hml, hown, hts⟩ (c_X6_moves l (ql_g g o f) _ S (G 6 0) (cq_moves (post := fun v S1 => v = (tq_moves T).2.1 ∧ ∃ G1, tx_R g.2.2.2.2.2.2.1 S1 G1 T ∧ G1 6 0 = G 6 0 ∧ tx_K g.2.2.2.2.2.2.1 S S1) (px := fun _ _ => True) hR ⟨fun _ S1 G1 a b k => ⟨rfl, G1, a, b, k⟩, fun _ => trivial, fun _ => trivial, fun _ => trivial⟩)) (cwV 0 hts gL_law_X6_moves rfl rfl rfl (by decide +kernel) ⟨(Nat.le_of_ble_eq_true rfl), (Nat.le_of_ble_eq_true rfl)⟩) ⟨qs_Pc.blind _ _ _ _, hG.recv hR.xL.1 hR.xL.2 (by decide) rfl, hG.pre _⟩ rfl rfl hl.1 rfl (lv_room (Nat.le_of_ble_eq_true rfl)) dL_law_1801 ⟨Nat.le_trans (Nat.le_add_right k 100) hkr, Nat.le_trans (Nat.le_add_right n 10500) hnr⟩) (fun v S1 H locs h hG => ?_)
  obtain ⟨ev, G1, hR1, ex1, hK1⟩ := h
  have hM1 := hM.fr hK1
  refine lv_aload_n hx hb dL_law_1804 rfl (lv_at hl 2 rfl) ?_
  refine qc_i hG (va_runV (As := []) (rest := [.int v]) ⟨hx, hb, hml, hown, hts⟩ (c_X7_moves l (ql_g g o f) _ S1 y (cm_moves (post := fun v1 S2 => ∃ M2, tx_M S2 y Hm M2 ∧ tx_J g.2.2.2.2.2.2.1 S1 S2 ∧ v1 = (tq_moves T).2.1 ∧ sm T M2) hM1 hS (fun S2 M2 v1 a b c d e => ⟨M2, a, b, d rfl, e⟩))) (cwV 0 hts gL_law_X7_moves rfl rfl rfl (by decide +kernel) ⟨(Nat.le_of_ble_eq_true rfl), (Nat.le_of_ble_eq_true rfl)⟩) ⟨qs_Pc.blind _ _ _ _, hG.recv hM1.y7.1 hM1.y7.2 (by decide) rfl, hG.pre _⟩ rfl rfl hl.1 rfl (lv_room (Nat.le_of_ble_eq_true rfl)) dL_law_1805 ⟨Nat.le_trans (Nat.le_add_right k 100) hkr, Nat.le_trans (Nat.le_add_right n 10500) hnr⟩) (fun v2 S2 H locs h hG => ?_)
  obtain ⟨M2, hM2, hJ, ev2, hS2⟩ := h
  rw [ev, ev2]
  refine lv_icmp_eq (tgt := 1882) hx hb dL_law_1808 (by decide) (fun _ => ?_) (fun c1 => absurd rfl c1)
  exact W.widen (k := k + 100) (n := n + 10500) (Nat.le_add_right k 100) (Nat.le_add_right n 10500) (K S2 G1 T Hm M2 f H locs ls ⟨hG, hR1.fr hJ, ex1, hM2, hS2, hI.mono (Nat.le_succ cn)⟩ hl)
set_option maxHeartbeats 1000000 in
set_option maxRecDepth 100000 in
theorem lw_c28 (hl9 : l.stackTraces = false) (C0 : lw_At p s m meth c b L xs) (hL : L ≤ 2560) (hi : i + 5 ≤ L) (hcn : cn ≤ 1000) (hkr : k + 100 ≤ 601024) (hnr : n + 10500 ≤ 7293034) (K : lw_K p l e s m below meth c b g o x y (cn + 1) i (k + 100) (n + 10500) 1882) {S : qs_S} {G : Nat → Nat → Nat} {T : tt_T} {Hm : Nat → Nat} {M : mm_M} {f : Nat → Int64} {H : Heap} {locs : List Loc} {ls : Array Slot} (st : lw_St g o s S G T Hm M f H locs x y cn) (hl : lv_has ls 7 [(0, .ref b), (1, .ref x), (2, .ref y), (3, .ref o), (4, .int (nI i))]) : W p l e room_1 s m #[Value.ref b] below meth c H locs k n (lw_Z below #[Value.ref b] s) (F0 m 1813 ls []) := by
  obtain ⟨hx, hb, hr, hml, hown, hts0, hX, hbl, hlocks, hgv⟩ := id C0
  have hts : ∀ w ∈ wsL_law, w.before #[Value.ref b] s = true := fun w h => hts0 w (wsL_law_in w h)
  obtain ⟨hG, hR, ex, hM, hS, hI⟩ := st
  have hbA : ¬ (fun q : Nat => s.heap.size ≤ q) b := Nat.not_le.mpr hbl
  refine lv_aload_n hx hb dL_law_1813 rfl (lv_at hl 1 rfl) ?_
  refine lw_arg (a0 := 0) (a4 := 4) (i := i) (k := 1) hx hb hX hbl hbA hG.2.2.2.1 hl rfl rfl (by omega) hL (by decide) dL_law_1814 dL_law_1815 dL_law_1817 rfl dL_law_1818 dL_law_1819 ?_
  refine lv_aload_n hx hb dL_law_1820 rfl (lv_at hl 3 rfl) ?_
  have hh := ch_moveAt (f := f) (m9 := g.2.2.2.2.2.2.2) (p0 := xs (i + 1)) hR ex hI
  have hc := c_L_moveAt (mc := 100) (ms := 10500) (post := fun kv S1 f1 => lq g.2.2.2.2.2.2.1 S x cA Int32.toInt64 (tq_moveAt T (xs (i + 1))) kv S1 (f1 0)) l hl9 g o f H.size S x (xs (i + 1)) (by rw [← ex]; exact hR.xL) hh
  have cw : vx_CSW room_1 s #[Value.ref b] RL 203 yL_moveAt cL_moveAt 4 (some .int) [(0, 9, 12, 13)] wsL_moveAt ({ frames := 9, cells := 100, slots := 10500, locals := 153 } : Room) 100 10500 3 := vx_cwSW 3 hts gL_law_L_moveAt rfl rfl rfl (by decide +kernel) ⟨(Nat.le_of_ble_eq_true rfl), (Nat.le_of_ble_eq_true rfl)⟩
  have hroom : k + 100 ≤ room_1.cells ∧ n + 10500 ≤ room_1.slots := ⟨hkr, hnr⟩
  have hp : PreS s H (qs_Pc (ql_g g o f) H.size S [.ref x, .int (xs (i + 1)), .ref o]) [.ref x, .int (xs (i + 1)), .ref o] := ⟨qs_Pc.blind _ _ _ _, hG.pre _⟩
  have hrun := vx_runSX (e := e) (below := below) (meth := meth) (locs := locs) (cells := k) (slots := n) (g := F0 m 1821 ls [.ref o, .int (xs (i + 1)), .ref x]) (As := [.ref x, .int (xs (i + 1)), .ref o]) (rest := []) ⟨hx, hb, hml, hown, hts⟩ hc cw hp rfl rfl hl.1 rfl (lv_room (Nat.le_of_ble_eq_true rfl)) dL_law_1821 hroom
  refine ql_i hG hrun (fun kv S1 f1 H locs h hG => ?_)
  obtain ⟨hkv, hv, G1, hR1, ex1, hK1⟩ := h
  have hM1 := hM.fr hK1
  refine lv_istore (lv' := [(5, .int kv), (0, .ref b), (1, .ref x), (2, .ref y), (3, .ref o), (4, .int (nI i))]) hx hb dL_law_1824 hl (by decide) rfl (fun ls hl => ?_)
  refine lv_aload_n hx hb dL_law_1826 rfl (lv_at hl 3 rfl) ?_
  refine lw_arg (a0 := 1) (a4 := 5) (i := i) (k := 1) hx hb hX hbl hbA hG.2.2.2.1 hl rfl rfl (by omega) hL (by decide) dL_law_1827 dL_law_1828 dL_law_1830 rfl dL_law_1831 dL_law_1832 ?_
  refine qc_i hG (va_runV (As := [.int (xs (i + 1))]) (rest := []) ⟨hx, hb, hml, hown, hts⟩ (c_X7_moveAt l (ql_g g o f1) _ S1 y (xs (i + 1)) (cm_moveAt (post := fun v S2 => ∃ M2, tx_M S2 y Hm M2 ∧ tx_J g.2.2.2.2.2.2.1 S1 S2 ∧ mi M2 0 = nI (cA (tq_moveAt T (xs (i + 1))).1) ∧ ((tq_moveAt T (xs (i + 1))).1 = 0 → v = (tq_moveAt T (xs (i + 1))).2.1) ∧ sm (tq_moveAt T (xs (i + 1))).2.2 M2) hM1 hS hI (fun S2 M2 v a b c d e => ⟨M2, a, b, c, d, e⟩))) (cwV 1 hts gL_law_X7_moveAt rfl rfl rfl (by decide +kernel) ⟨(Nat.le_of_ble_eq_true rfl), (Nat.le_of_ble_eq_true rfl)⟩) ⟨qs_Pc.blind _ _ _ _, hG.recv hM1.y7.1 hM1.y7.2 (by decide) rfl, hG.pre _⟩ rfl rfl hl.1 rfl (lv_room (Nat.le_of_ble_eq_true rfl)) dL_law_1833 ⟨hkr, hnr⟩) (fun v S2 H locs h hG => ?_)
  obtain ⟨M2, hM2, hJ, h0, hv2, hS2⟩ := h
  refine lv_istore (lv' := [(6, .int v), (5, .int kv), (0, .ref b), (1, .ref x), (2, .ref y), (3, .ref o), (4, .int (nI i))]) hx hb dL_law_1836 hl (by decide) rfl (fun ls hl => ?_)
  exact lw_fin C0 K ⟨hG, hR1.fr hJ, ex1, hM2, hS2, te_moveAt hI⟩ hl (ok := (tq_moveAt T (xs (i + 1))).1 = 0) hkr hnr (hkv.trans h0.symm) (fun z => ccA0 tm_moveAt (hkv.symm.trans z)) (fun z => by rw [hv z, hv2 z]) dL_law_1838 dL_law_1839 dL_law_1842 dL_law_1844 dL_law_1849 dL_law_1851 dL_law_1854 dL_law_1855 dL_law_1856 dL_law_1857 dL_law_1859 dL_law_1860 dL_law_1861 dL_law_1866 (by decide)
set_option maxHeartbeats 1000000 in
set_option maxRecDepth 100000 in
theorem lw_c29 (hl9 : l.stackTraces = false) (C0 : lw_At p s m meth c b L xs) (hL : L ≤ 2560) (hi : i + 5 ≤ L) (hcn : cn ≤ 1000) (hkr : k + 100 ≤ 601024) (hnr : n + 10500 ≤ 7293034) (K : lw_K p l e s m below meth c b g o x y (cn + 1) i (k + 100) (n + 10500) 1882) {S : qs_S} {G : Nat → Nat → Nat} {T : tt_T} {Hm : Nat → Nat} {M : mm_M} {f : Nat → Int64} {H : Heap} {locs : List Loc} {ls : Array Slot} (st : lw_St g o s S G T Hm M f H locs x y cn) (hl : lv_has ls 7 [(0, .ref b), (1, .ref x), (2, .ref y), (3, .ref o), (4, .int (nI i))]) : W p l e room_1 s m #[Value.ref b] below meth c H locs k n (lw_Z below #[Value.ref b] s) (F0 m 1869 ls []) := by
  obtain ⟨hx, hb, hr, hml, hown, hts0, hX, hbl, hlocks, hgv⟩ := id C0
  have hts : ∀ w ∈ wsL_law, w.before #[Value.ref b] s = true := fun w h => hts0 w (wsL_law_in w h)
  obtain ⟨hG, hR, ex, hM, hS, hI⟩ := st
  have hbA : ¬ (fun q : Nat => s.heap.size ≤ q) b := Nat.not_le.mpr hbl
  subst ex
  refine lv_aload_n hx hb dL_law_1869 rfl (lv_at hl 1 rfl) ?_
  refine qc_i hG (va_runV (As := []) (rest := []) ⟨hx, hb, hml, hown, hts⟩ (c_X6_unheard l (ql_g g o f) _ S (G 6 0) (cq_unheard (post := fun v S1 => v = (tq_unheard T).2.1 ∧ ∃ G1, tx_R g.2.2.2.2.2.2.1 S1 G1 T ∧ G1 6 0 = G 6 0 ∧ tx_K g.2.2.2.2.2.2.1 S S1) (px := fun _ _ => True) hR ⟨fun _ S1 G1 a b k => ⟨rfl, G1, a, b, k⟩, fun _ => trivial, fun _ => trivial, fun _ => trivial⟩)) (cwV 0 hts gL_law_X6_unheard rfl rfl rfl (by decide +kernel) ⟨(Nat.le_of_ble_eq_true rfl), (Nat.le_of_ble_eq_true rfl)⟩) ⟨qs_Pc.blind _ _ _ _, hG.recv hR.xL.1 hR.xL.2 (by decide) rfl, hG.pre _⟩ rfl rfl hl.1 rfl (lv_room (Nat.le_of_ble_eq_true rfl)) dL_law_1870 ⟨Nat.le_trans (Nat.le_add_right k 100) hkr, Nat.le_trans (Nat.le_add_right n 10500) hnr⟩) (fun v S1 H locs h hG => ?_)
  obtain ⟨ev, G1, hR1, ex1, hK1⟩ := h
  have hM1 := hM.fr hK1
  refine lv_aload_n hx hb dL_law_1873 rfl (lv_at hl 2 rfl) ?_
  refine qc_i hG (va_runV (As := []) (rest := [.int v]) ⟨hx, hb, hml, hown, hts⟩ (c_X7_unheard l (ql_g g o f) _ S1 y (cm_unheard (post := fun v1 S2 => ∃ M2, tx_M S2 y Hm M2 ∧ tx_J g.2.2.2.2.2.2.1 S1 S2 ∧ v1 = (tq_unheard T).2.1 ∧ sm T M2) hM1 hS (fun S2 M2 v1 a b c d e => ⟨M2, a, b, d rfl, e⟩))) (cwV 0 hts gL_law_X7_unheard rfl rfl rfl (by decide +kernel) ⟨(Nat.le_of_ble_eq_true rfl), (Nat.le_of_ble_eq_true rfl)⟩) ⟨qs_Pc.blind _ _ _ _, hG.recv hM1.y7.1 hM1.y7.2 (by decide) rfl, hG.pre _⟩ rfl rfl hl.1 rfl (lv_room (Nat.le_of_ble_eq_true rfl)) dL_law_1874 ⟨Nat.le_trans (Nat.le_add_right k 100) hkr, Nat.le_trans (Nat.le_add_right n 10500) hnr⟩) (fun v2 S2 H locs h hG => ?_)
  obtain ⟨M2, hM2, hJ, ev2, hS2⟩ := h
  rw [ev, ev2]
  refine lv_icmp_eq (tgt := 1882) hx hb dL_law_1877 (by decide) (fun _ => ?_) (fun c1 => absurd rfl c1)
  exact W.widen (k := k + 100) (n := n + 10500) (Nat.le_add_right k 100) (Nat.le_add_right n 10500) (K S2 G1 T Hm M2 f H locs ls ⟨hG, hR1.fr hJ, ex1, hM2, hS2, hI.mono (Nat.le_succ cn)⟩ hl)
end LWC

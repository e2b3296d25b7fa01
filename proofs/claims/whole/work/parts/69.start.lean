/-! ===== the law's entry: the tables' classes, the statics, both systems made, the loop begun ===== -/
section LWS
variable {p : Program} {s : State} {m : MethodId} {meth : Method} {c : Code} {b L : Nat} {xs : Nat → Int32}
def lw_A (s : State) : Nat → Prop := fun q => s.heap.size ≤ q
set_option maxRecDepth 100000 in
theorem lw_casts : ∀ q ∈ qs_cast, Cond.castable q.1 q.2 ∈ lw_tbl := by decide +kernel
set_option maxRecDepth 100000 in
theorem lw_nocasts : ∀ q ∈ qs_nocast, Cond.not (Cond.castable q.1 q.2) ∈ flatC (Jvm.Cond.and given_1 narrow_1) := by decide +kernel
set_option maxRecDepth 100000 in
theorem lw_decs : ∀ y ∈ qs_dec, Cond.declares (Bundle.initS y) ∈ lw_tbl := by decide +kernel
set_option maxRecDepth 100000 in
theorem lw_strs1 : ∀ q ∈ qs_str, Cond.stringRef q.1 q.2.1 q.2.2 ∈ lw_tbl := by decide +kernel
set_option maxRecDepth 100000 in
theorem lw_strs2 : ∀ q ∈ qs_str, Cond.exactly (.string q.1 q.2.1) "java/lang/String" ∈ flatC (Jvm.Cond.and given_1 narrow_1) := by decide +kernel
set_option maxRecDepth 100000 in
theorem lw_E (C0 : lw_At p s m meth c b L xs) : ∃ t0 m9 : Nat, qs_E t0 m9 (fun q : Nat => s.heap.size ≤ q) s s.heap := by
  obtain ⟨hx, hb, hr, hml, hown, hts0, hX, hbl, hlocks, hgv⟩ := C0
  have hs := flat_of_before _ hgv
  have hA : ∀ a : Nat, a < s.heap.size → ¬ (fun q : Nat => s.heap.size ≤ q) a := fun a h q => absurd q (Nat.not_le.mpr h)
  obtain ⟨t0, ht, hT⟩ := va_Tof (args := #[Value.ref b]) (s := s) (tm := .static "java/util/ArrayList" "DEFAULTCAPACITY_EMPTY_ELEMENTDATA" "[Ljava/lang/Object;") (ty := .object "java/lang/Object") (N := 0) (f := fun _ => .null) (A := fun q : Nat => s.heap.size ≤ q) (by decide) (hs _ (by decide +kernel)) (va_eqt (z := 0) (hs _ (by decide +kernel))) (fun j hj => absurd hj (Nat.not_lt_zero _)) hA
  obtain ⟨m9, hm9⟩ := va_Mi.of (args := #[Value.ref b]) (s := s) (C := "[Ljava/lang/Object;") (hs _ (by decide +kernel))
  refine ⟨t0, m9, va_Zof (args := #[Value.ref b]) (hts0 _ (by decide +kernel)) (hts0 _ (by decide +kernel)) ht hA, hT, vx_Zqof (args := #[Value.ref b]) (hts0 _ (by decide +kernel)) (hts0 _ (by decide +kernel)) (hs _ (by decide +kernel)) hA, vx_Zqof (args := #[Value.ref b]) (hts0 _ (by decide +kernel)) (hts0 _ (by decide +kernel)) (hs _ (by decide +kernel)) hA, hm9, va_Dc.of (A := #[Value.ref b]) (hts0 _ (by decide +kernel)), fun q hq => va_Nw.of rfl (hts0 _ (lw_casts q hq)), fun q hq => va_Nc.of (hs _ (lw_nocasts q hq)), ⟨va_AO.of (A := #[Value.ref b]) (hts0 _ (by decide +kernel)), fun y hy => va_Nw.of rfl (hts0 _ (lw_decs y hy)), va_Nw.of rfl (hts0 _ (by decide +kernel))⟩, fun q hq => ?_⟩
  obtain ⟨a, c1, cell, k, h1, -⟩ := Cond.exactly_spec (hs _ (lw_strs2 q hq))
  exact ⟨a, vk_R.of (hts0 _ (lw_strs1 q hq)) h1⟩
theorem lw_arrP {t : FieldType} {s : State} {args : Array Value} (h : (Cond.arrayClass t).before args s = true) : ∃ cA : ClassId, ArrOfT s cA t ∧ s.vm.findClass ("[" ++ t.toString) = some cA := by
  obtain ⟨cA, k, comp, h1, h2, h3⟩ := Cond.arrayClass_spec h
  exact ⟨cA, fun n z => ⟨fun k h => (by cases h), k, h2, comp, h3⟩, h1⟩
set_option maxRecDepth 100000 in
theorem lw_K0 (C0 : lw_At p s m meth c b L xs) : ∃ (D : va_G) (cI cZ cO cL : ClassId), va_K D vwCl [(cI, .int), (cZ, .boolean), (cO, .object "java/lang/Object"), (cL, .long)] s := by
  obtain ⟨hx, hb, hr, hml, hown, hts0, hX, hbl, hlocks, hgv⟩ := C0
  obtain ⟨c0, i0, k0⟩ := u_known (C := RJx4a65c) (T := TJx4a65c) (N := 3) (n := 3) hts0 inJx4a65c (hts0 (.instantiable RJx4a65c 3) (by decide +kernel))
  obtain ⟨c1, i1, k1⟩ := u_known (C := RX0) (T := TX0) (N := 8) (n := 8) hts0 inX0 (hts0 (.instantiable RX0 8) (by decide +kernel))
  obtain ⟨c2, i2, k2⟩ := u_known (C := RX1) (T := TX1) (N := 8) (n := 8) hts0 inX1 (hts0 (.instantiable RX1 8) (by decide +kernel))
  obtain ⟨c3, i3, k3⟩ := u_known (C := RX2) (T := TX2) (N := 7) (n := 7) hts0 inX2 (hts0 (.instantiable RX2 7) (by decide +kernel))
  obtain ⟨c4, i4, k4⟩ := u_known (C := RX3) (T := TX3) (N := 3) (n := 3) hts0 inX3 (hts0 (.instantiable RX3 3) (by decide +kernel))
  obtain ⟨c5, i5, k5⟩ := u_known (C := RX4) (T := TX4) (N := 8) (n := 8) hts0 inX4 (hts0 (.instantiable RX4 8) (by decide +kernel))
  obtain ⟨c6, i6, k6⟩ := u_known (C := RX6) (T := TX6) (N := 8) (n := 8) hts0 inX6 (hts0 (.instantiable RX6 8) (by decide +kernel))
  obtain ⟨c7, i7, k7⟩ := u_known (C := RX7) (T := TX7) (N := 35) (n := 35) hts0 inX7 (hts0 (.instantiable RX7 35) (by decide +kernel))
  obtain ⟨cI, a1, a2⟩ := lw_arrP (t := .int) (hts0 _ (by decide +kernel))
  obtain ⟨cZ, b1, b2⟩ := lw_arrP (t := .boolean) (hts0 _ (by decide +kernel))
  obtain ⟨cL, d1, d2⟩ := lw_arrP (t := .long) (hts0 _ (by decide +kernel))
  obtain ⟨comp, cO, kO, o1, -, o2, o3, o4⟩ := Cond.arrayOver_spec (n := "java/lang/Object") (hts0 (.arrayOver (.object "java/lang/Object")) (by decide +kernel))
  refine ⟨(fun k => if k = 0 then c0 else if k = 1 then c1 else if k = 2 then c2 else if k = 3 then c3 else if k = 4 then c4 else if k = 5 then c5 else if k = 6 then c6 else c7, fun k => if k = 0 then i0 else if k = 1 then i1 else if k = 2 then i2 else if k = 3 then i3 else if k = 4 then i4 else if k = 5 then i5 else if k = 6 then i6 else i7), cI, cZ, cO, cL, fun k q hq => ?_, fun k q hq => ?_⟩
  · match k, hq with
    | 0, hq => cases hq; exact k0
    | 1, hq => cases hq; exact k1
    | 2, hq => cases hq; exact k2
    | 3, hq => cases hq; exact k3
    | 4, hq => cases hq; exact k4
    | 5, hq => cases hq; exact k5
    | 6, hq => cases hq; exact k6
    | 7, hq => cases hq; exact k7
    | k + 8, hq => simp [vwCl] at hq
  · match k, hq with
    | 0, hq => cases hq; exact ⟨a1, a2⟩
    | 1, hq => cases hq; exact ⟨b1, b2⟩
    | 2, hq => cases hq; exact ⟨fun n z => ⟨fun k h => (by cases h), kO, o2, comp, o3⟩, kO, comp, o2, o3, o1, o4⟩
    | 3, hq => cases hq; exact ⟨d1, d2⟩
    | k + 4, hq => simp at hq
end LWS
set_option maxHeartbeats 4000000 in
set_option maxRecDepth 100000 in
theorem whole_start {p : Program} {e : Env} {s : State} {m : MethodId} {below : List Frame} {meth : Method} {c : Code} (l : Launch) (hflags : l.flags = flags0) {b L : Nat} {xs : Nat → Int32} (hL : L ≤ 2560) (C0 : lw_At p s m meth c b L xs) : W p l e room_1 s m #[Value.ref b] below meth c s.heap [] 0 0 (lw_Z below #[Value.ref b] s) (entryFrame m ([Value.ref b] : List Value).toArray 7) := by
  have hl9 : l.stackTraces = false := qs_st hflags (by decide +kernel)
  obtain ⟨t0, m9, hE⟩ := lw_E C0
  obtain ⟨D, cI, cZ, cO, cL, hK⟩ := lw_K0 C0
  obtain ⟨hx, hb, hr, hml, hown, hts0, hX, hbl, hlocks, hgv⟩ := id C0
  have hts : ∀ w ∈ wsL_law, w.before #[Value.ref b] s = true := fun w h => hts0 w (wsL_law_in w h)
  have hG : qs_Gd (D, cI, cZ, cO, cL, [], t0, m9) (fun q : Nat => s.heap.size ≤ q) s ([], fun _ => 0, fun _ _ => 0, fun _ _ => none, fun _ => 0, fun _ _ => 0, fun _ _ => none) s.heap [] := ⟨hK, fun k q h => by simp [qs_ws, va_pl, qs_L] at h, ⟨fun i j q r h => by simp [qs_ws, va_pl, qs_L] at h, fun k q h => by simp [qs_ws, va_pl, qs_L] at h⟩, va_S.rf, fun q h => h, hE⟩
  have hl := lv_entry ([.ref b]) (n := 7) (Nat.le_of_ble_eq_true rfl)
  rw [lg_entry_eq]
  generalize (lg_sl ([.ref b]) ++ List.replicate (7 - (lg_sl ([.ref b])).length) Slot.unset).toArray = ls at hl ⊢
  have hl : lv_has ls 7 [(0, .ref b)] := hl
  refine qr_new (C := RX6) (T := TX6) (N := 8) (ci := 6) hx hb hts0 inX6 tyX6 tyX6_ok hown (hts0 (.classLink RL 8 RX6) (by decide +kernel)) (hts0 (.instantiable RX6 8) (by decide +kernel)) (hts0 (.initialized RX6) (by decide +kernel)) hG (by decide) rfl hf9_6 (Nat.le_of_ble_eq_true rfl) (Nat.le_of_ble_eq_true rfl) dL_law_0 (fun qx H hq1 hq1t hG => ?_)
  refine lv_dup hx hb dL_law_3 rfl ?_
  refine qc_v hG (va_runI (As := []) (rest := [.ref qx]) ⟨hx, hb, hml, hown, hts⟩ (c_X6_init l (D, cI, cZ, cO, cL, [], t0, m9) _ (qs_nw ([], fun _ => 0, fun _ _ => 0, fun _ _ => none, fun _ => 0, fun _ _ => 0, fun _ _ => none) qx 6) qx (mc := 38) (ms := 5010) (cx_init (post := fun S1 => ∃ G : Nat → Nat → Nat, G 6 0 = qx ∧ tx_R t0 S1 G (tt_Y 4)) (List.mem_append_right _ (List.mem_singleton.mpr rfl)) (if_pos rfl) (fun h => hq1t (List.mem_singleton.mp h).symm) (Nat.le_refl _) (Nat.le_refl _) (fun S1 G a b _ => ⟨G, a, b⟩))) (cwI 0 hts gL_law_X6_init rfl rfl rfl (hts0 (.initialized RX6) (by decide +kernel)) (hts0 (.methodLink RL 100 yX6_init) (by decide +kernel)) (hts0 (.instanceMethod yX6_init) (by decide +kernel)) rfl (by decide +kernel) ⟨(Nat.le_of_ble_eq_true rfl), (Nat.le_of_ble_eq_true rfl)⟩) ⟨qs_Pc.blind _ _ _ _, hG.pre _⟩ rfl rfl hl.1 rfl (lv_room (Nat.le_of_ble_eq_true rfl)) dL_law_4 ⟨(Nat.le_of_ble_eq_true rfl), (Nat.le_of_ble_eq_true rfl)⟩) (fun S1 H locs h hG => ?_)
  obtain ⟨G, ex, hR⟩ := h
  refine lv_astore_n (lv' := [(1, .ref qx), (0, .ref b)]) hx hb dL_law_7 rfl hl (by decide) rfl (fun ls hl => ?_)
  refine qr_new (C := RX7) (T := TX7) (N := 35) (ci := 7) hx hb hts0 inX7 tyX7 tyX7_ok hown (hts0 (.classLink RL 101 RX7) (by decide +kernel)) (hts0 (.instantiable RX7 35) (by decide +kernel)) (hts0 (.initialized RX7) (by decide +kernel)) hG (by decide) rfl hf9_7 (Nat.le_of_ble_eq_true rfl) (Nat.le_of_ble_eq_true rfl) dL_law_8 (fun qy H hq2 hq2t hG => ?_)
  have hR := hR.fr (S' := qs_nw S1 qy 7) (ps_Fr.nw hq2 hq2t)
  refine lv_dup hx hb dL_law_11 rfl ?_
  refine qc_v hG (va_runI (As := []) (rest := [.ref qy]) ⟨hx, hb, hml, hown, hts⟩ (c_X7_init l (D, cI, cZ, cO, cL, [], t0, m9) _ (qs_nw S1 qy 7) qy (mc := 28) (ms := 1560) (cm_init (post := fun S2 => ∃ Hm : Nat → Nat, tx_M S2 qy Hm mm_0 ∧ tx_J t0 (qs_nw S1 qy 7) S2) (List.mem_append_right _ (List.mem_singleton.mpr rfl)) (if_pos rfl) (fun k _ => if_pos rfl) (Nat.le_refl _) (Nat.le_refl _) (fun S2 Hm a b => ⟨Hm, a, b⟩))) (cwI 0 hts gL_law_X7_init rfl rfl rfl (hts0 (.initialized RX7) (by decide +kernel)) (hts0 (.methodLink RL 103 yX7_init) (by decide +kernel)) (hts0 (.instanceMethod yX7_init) (by decide +kernel)) rfl (by decide +kernel) ⟨(Nat.le_of_ble_eq_true rfl), (Nat.le_of_ble_eq_true rfl)⟩) ⟨qs_Pc.blind _ _ _ _, hG.pre _⟩ rfl rfl hl.1 rfl (lv_room (Nat.le_of_ble_eq_true rfl)) dL_law_12 ⟨(Nat.le_of_ble_eq_true rfl), (Nat.le_of_ble_eq_true rfl)⟩) (fun S2 H locs h hG => ?_)
  obtain ⟨Hm, hM, hJ⟩ := h
  have hR := hR.fr hJ
  refine lv_astore_n (lv' := [(2, .ref qy), (1, .ref qx), (0, .ref b)]) hx hb dL_law_15 rfl hl (by decide) rfl (fun ls hl => ?_)
  refine lv_iconst (v := 1) hx hb dL_law_16 (by decide) ?_
  refine ql_new hx hb (hts0 (.arrayClass .long) (by decide +kernel)) rfl hG (Nat.le_of_ble_eq_true rfl) (Nat.le_of_ble_eq_true rfl) dL_law_17 (fun o H hG => ?_)
  refine lv_astore_n (lv' := [(3, .ref o), (2, .ref qy), (1, .ref qx), (0, .ref b)]) hx hb dL_law_19 rfl hl (by decide) rfl (fun ls hl => ?_)
  refine lv_iconst (v := 0) hx hb dL_law_20 (by decide) ?_
  refine lv_istore (lv' := [(4, .int 0), (3, .ref o), (2, .ref qy), (1, .ref qx), (0, .ref b)]) hx hb dL_law_21 hl (by decide) rfl (fun ls hl => ?_)
  refine W.widen (k := 100) (n := 10000) (Nat.le_of_ble_eq_true rfl) (Nat.le_of_ble_eq_true rfl) ?_
  exact lw_loop (g := (D, cI, cZ, cO, cL, [], t0, m9)) (k0 := 100) (n0 := 10000) hl9 C0 hL (Nat.le_refl _) (Nat.le_refl _) (L + 1) 0 0 100 10000 (by omega) (by omega) rfl rfl rfl S2 G (tt_Y 4) Hm mm_0 (fun _ => 0) H locs ls ⟨hG, hR, ex, hM, sm_0, iv_0⟩ (lv_sub hl [4, 3, 2, 1, 0] rfl)

def wp_X6_berth_b25 (t0 m9 : Nat) (mc ms : Nat) (post : Int32 → qs_S → Prop) (px : String → qs_S → Prop) (k n : Nat) (S : qs_S) : Prop := (k + 1 ≤ mc ∧ n + 6 ≤ ms) ∧ px "java/lang/IllegalArgumentException" S
def wp_X6_berth_b58 (t0 m9 : Nat) (mc ms : Nat) (post : Int32 → qs_S → Prop) (px : String → qs_S → Prop) (k n : Nat) (S : qs_S) : Prop := (k + 1 ≤ mc ∧ n + 6 ≤ ms) ∧ px "java/lang/IllegalStateException" S
def wp_X6_berth (t0 m9 : Nat) (mc ms : Nat) (post : Int32 → qs_S → Prop) (px : String → qs_S → Prop) (SA : qs_S) (a0z : Nat) (x1z : Int32) (x2z : Int32) : Prop := ∃ mck3 msk3 : Nat, (0 + mck3 ≤ mc ∧ 0 + msk3 ≤ ms) ∧ (wp_X6_requireOneOf t0 m9 mck3 msk3 (fun (S5 : qs_S) => (x2z < (1 : Int32) → (wp_X6_berth_b25 t0 m9 mc ms post px (0 + mck3) (0 + msk3) S5)) ∧ (¬ x2z < (1 : Int32) → (((8 : Int32) < x2z → (wp_X6_berth_b25 t0 m9 mc ms post px (0 + mck3) (0 + msk3) S5)) ∧ (¬ (8 : Int32) < x2z → (∀ v8 : Int32, v8 = x1z + x2z → (v8 ≤ (16 : Int32) → ((a0z ∈ qs_L S5 ∧ qs_K S5 a0z = 6) ∧ (∃ q12 : Nat, qs_R S5 0 a0z = some q12 ∧ ((q12 ∈ qs_L S5 ∧ qs_K S5 q12 = 0) ∧ (wp_Jx4a65c_size_8abf5 t0 m9 (fun (v18 : Int32) (S17 : qs_S) => ((10 : Int32) ≤ v18 → (wp_X6_berth_b58 t0 m9 mc ms post px (0 + mck3) (0 + msk3) S17)) ∧ (¬ (10 : Int32) ≤ v18 → (∀ v20 : Int32, v20 = x1z + x2z → (a0z ∈ qs_L S17 ∧ qs_K S17 a0z = 6) ∧ (wp_X6_isTaken t0 m9 (fun (v26 : Int32) (S25 : qs_S) => (v26 = 0 → ((a0z ∈ qs_L S25 ∧ qs_K S25 a0z = 6) ∧ (∃ q30 : Nat, qs_R S25 0 a0z = some q30 ∧ ((0 + mck3 + 1 ≤ mc ∧ 0 + msk3 + 3 ≤ ms) ∧ (∀ q31 : Nat, q31 ∉ qs_L S25 → q31 ≠ t0 → ∀ v38 : Int32, v38 = x1z + x2z → wp_X3_init t0 m9 (fun (S41 : qs_S) => (q30 ∈ qs_L S41 ∧ qs_K S41 q30 = 0) ∧ (∃ mck42 msk42 : Nat, (0 + mck3 + 1 + mck42 ≤ mc ∧ 0 + msk3 + 3 + msk42 ≤ ms) ∧ (wp_Jx4a65c_add_9ea2d t0 m9 mck42 msk42 (fun (v47 : Int32) (S46 : qs_S) => (a0z ∈ qs_L S46 ∧ qs_K S46 a0z = 6) ∧ (∃ q50 : Nat, qs_R S46 0 a0z = some q50 ∧ ((q50 ∈ qs_L S46 ∧ qs_K S46 q50 = 0) ∧ (wp_Jx4a65c_size_8abf5 t0 m9 (fun (v56 : Int32) (S55 : qs_S) => ∀ v57 : Int32, v57 = v56 - (1 : Int32) → post v57 S55) S46 q50)))) S41 q30 q31))) (qs_nw S25 q31 4) q31 x1z v38))))) ∧ (¬ v26 = 0 → (wp_X6_berth_b58 t0 m9 mc ms post px (0 + mck3) (0 + msk3) S25))) S17 a0z x1z v20)))) S5 q12))))) ∧ (¬ v8 ≤ (16 : Int32) → (wp_X6_berth_b25 t0 m9 mc ms post px (0 + mck3) (0 + msk3) S5))))))) px SA x1z (16 : Int32))
set_option maxHeartbeats 4000000 in
set_option maxRecDepth 100000 in
theorem c_X6_berth (l : Launch) (hl9 : l.stackTraces = false) (g : qs_G) (sz : Nat) (SA : qs_S) (a0z : Nat) (x1z : Int32) (x2z : Int32) {mc ms : Nat} {post : Int32 → qs_S → Prop} {px : String → qs_S → Prop} (h : wp_X6_berth g.2.2.2.2.2.2.1 g.2.2.2.2.2.2.2 mc ms post px SA a0z x1z x2z) : vx_Met l yX6_berth wsX6_berth ({ frames := 7, cells := mc, slots := ms, locals := 191 } : Room) (qs_Pc g sz SA [.ref a0z, .int x1z, .int x2z]) (qs_Qi g (qs_F g SA sz) post) (qs_X g (qs_F g SA sz) px) mc ms (qs_F g SA sz) := by
  refine vx_ofW (cc := cX6_berth) (maxL := 3) (ret := (some .int)) (by decide +kernel) rfl ?_
  intro p e s m args below meth c s₁ B hml hnt hv
  obtain ⟨rfl, hsz, hG⟩ := qs_Gd.start hv
  subst hsz
  have hx := B.exec
  have hb := B.bytes
  have hr := B.returns
  have hts := atoms_spec (ws := wsX6_berth) B.pre
  have hown : s.vm.findClass RX6 = some m.cls := findClass_of_methodNamed B.named
  have hlk := B.notSynchronized
  have in0 : ∀ w ∈ u_ws RJx4a65c TJx4a65c 3, w ∈ wsX6_berth := fun w h => List.mem_cons_of_mem _ (List.mem_append_left _ (List.mem_append_left _ (List.mem_append_left _ (List.mem_append_right _ (h)))))
  have in4 : ∀ w ∈ u_ws RX3 TX3 3, w ∈ wsX6_berth := fun w h => List.mem_cons_of_mem _ (List.mem_append_left _ (List.mem_append_left _ (List.mem_append_left _ (List.mem_append_left _ (List.mem_append_right _ (h))))))
  have in6 : ∀ w ∈ u_ws RX6 TX6 8, w ∈ wsX6_berth := fun w h => List.mem_cons_of_mem _ (List.mem_append_left _ (List.mem_append_left _ (List.mem_append_left _ (List.mem_append_left _ (List.mem_append_left _ (List.mem_append_right _ (h)))))))
  have hkc : 0 ≤ mc := Nat.zero_le _
  have hks : 0 ≤ ms := Nat.zero_le _
  have hmR : mc ≤ (headSpec wsX6_berth ({ frames := 7, cells := mc, slots := ms, locals := 191 } : Room)).room.cells := Nat.le_refl _
  have hsR : ms ≤ (headSpec wsX6_berth ({ frames := 7, cells := mc, slots := ms, locals := 191 } : Room)).room.slots := Nat.le_refl _
  have b25 : ∀ (S : qs_S) (H : Heap) (locs : List Loc) (k n : Nat) (ls : Array Slot), k ≤ mc → n ≤ ms → wp_X6_berth_b25 g.2.2.2.2.2.2.1 g.2.2.2.2.2.2.2 mc ms post px k n S → qs_Gd g (qs_F g SA s.heap.size) s S H locs → lv_has ls 3 [] → W p l e (headSpec wsX6_berth ({ frames := 7, cells := mc, slots := ms, locals := 191 } : Room)).room s m (([.ref a0z, .int x1z, .int x2z] : List Value)).toArray below meth c H locs k n (vx_MQ below (qs_Qi g (qs_F g SA s.heap.size) post) (qs_X g (qs_F g SA s.heap.size) px) (([.ref a0z, .int x1z, .int x2z] : List Value)).toArray s mc ms (qs_F g SA s.heap.size)) (F0 m 25 ls []) := by
    intro S H locs k n ls hkc hks h hG hl
    unfold wp_X6_berth_b25 at h
    obtain ⟨⟨hs1c, hs1s⟩, h⟩ := h
    exact qx_throw (ik := 55) (is := 57) (ic := 59) (cls := "java/lang/IllegalArgumentException") hx hb hl9 hts hown (by decide +kernel) (by decide +kernel) (List.mem_of_getElem? (i := 9) rfl) (hts (.classLink RX6 55 "java/lang/IllegalArgumentException") (List.mem_of_getElem? (i := 1) rfl)) (hts (.initialized "java/lang/IllegalArgumentException") (List.mem_of_getElem? (i := 2) rfl)) (fun w h => List.mem_cons_of_mem _ (List.mem_append_left _ (List.mem_append_left _ (List.mem_append_right _ (h))))) qt_bd_IAE qt_gd_IAE hG (hl.1.trans hml.symm) dX6_berth_25 dX6_berth_28 dX6_berth_29 dX6_berth_31 dX6_berth_34 hnt (Nat.le_of_ble_eq_true rfl) (Nat.le_of_ble_eq_true rfl) hmR hsR hlk h hs1c hs1s
  have b58 : ∀ (S : qs_S) (H : Heap) (locs : List Loc) (k n : Nat) (ls : Array Slot), k ≤ mc → n ≤ ms → wp_X6_berth_b58 g.2.2.2.2.2.2.1 g.2.2.2.2.2.2.2 mc ms post px k n S → qs_Gd g (qs_F g SA s.heap.size) s S H locs → lv_has ls 3 [] → W p l e (headSpec wsX6_berth ({ frames := 7, cells := mc, slots := ms, locals := 191 } : Room)).room s m (([.ref a0z, .int x1z, .int x2z] : List Value)).toArray below meth c H locs k n (vx_MQ below (qs_Qi g (qs_F g SA s.heap.size) post) (qs_X g (qs_F g SA s.heap.size) px) (([.ref a0z, .int x1z, .int x2z] : List Value)).toArray s mc ms (qs_F g SA s.heap.size)) (F0 m 58 ls []) := by
    intro S H locs k n ls hkc hks h hG hl
    unfold wp_X6_berth_b58 at h
    obtain ⟨⟨hs2c, hs2s⟩, h⟩ := h
    exact qx_throw (ik := 70) (is := 72) (ic := 74) (cls := "java/lang/IllegalStateException") hx hb hl9 hts hown (by decide +kernel) (by decide +kernel) (List.mem_of_getElem? (i := 18) rfl) (hts (.classLink RX6 70 "java/lang/IllegalStateException") (List.mem_of_getElem? (i := 3) rfl)) (hts (.initialized "java/lang/IllegalStateException") (List.mem_of_getElem? (i := 4) rfl)) (fun w h => List.mem_cons_of_mem _ (List.mem_append_left _ (List.mem_append_right _ (h)))) qt_bd_ISE qt_gd_ISE hG (hl.1.trans hml.symm) dX6_berth_58 dX6_berth_61 dX6_berth_62 dX6_berth_64 dX6_berth_67 hnt (Nat.le_of_ble_eq_true rfl) (Nat.le_of_ble_eq_true rfl) hmR hsR hlk h hs2c hs2s
  have hl := lv_entry ([.ref a0z, .int x1z, .int x2z]) (n := 3) (Nat.le_of_ble_eq_true rfl)
  rw [lg_entry_eq]
  generalize (lg_sl ([.ref a0z, .int x1z, .int x2z]) ++ List.replicate (3 - (lg_sl ([.ref a0z, .int x1z, .int x2z])).length) Slot.unset).toArray = ls at hl ⊢
  have hl : lv_has ls 3 [(0, .ref a0z), (1, .int x1z), (2, .int x2z)] := hl
  unfold wp_X6_berth at h
  refine lv_iload_n hx hb dX6_berth_0 rfl (lv_at hl 1 rfl) ?_
  refine lv_bipush (v := (16 : Int32)) hx hb dX6_berth_1 (by decide +kernel) ?_
  obtain ⟨mck3, msk3, ⟨hs4c, hs4s⟩, h⟩ := h
  refine qx_v hG (vx_runS (As := [.int x1z, .int (16 : Int32)]) (rest := []) ⟨hx, hb, hml, hown, hts⟩ (c_X6_requireOneOf l hl9 g _ SA x1z (16 : Int32) h) (va_cwS 2 hts gX6_berth_X6_requireOneOf rfl rfl rfl (by decide +kernel) ⟨(Nat.le_of_ble_eq_true rfl), (Nat.le_of_ble_eq_true rfl)⟩) ⟨qs_Pc.blind _ _ _ _, hG.pre _⟩ rfl rfl hl.1 rfl (lv_room (Nat.le_of_ble_eq_true rfl)) dX6_berth_3 ⟨Nat.le_trans hs4c hmR, Nat.le_trans hs4s hsR⟩) (fun E S1 H locs ce q9 hp hG h1 h2 h3 => qx_out hnt hlk hG hp h1 h2 h3 hs4c hs4s) (fun S5 H locs h hG => ?_)
  have hkc := hs4c
  have hks := hs4s
  refine lv_iload_n hx hb dX6_berth_6 rfl (lv_at hl 2 rfl) ?_
  refine lv_iconst (v := (1 : Int32)) hx hb dX6_berth_7 (by decide +kernel) ?_
  refine lv_icmp_lt (tgt := 25) hx hb dX6_berth_8 (by decide) (fun c6 => ?_) (fun c6 => ?_)
  · have h := h.1 c6
    exact b25 S5 _ _ (0 + mck3) (0 + msk3) ls hkc hks h hG (lv_sub hl [] rfl)
  · have h := h.2 c6
    refine lv_iload_n hx hb dX6_berth_11 rfl (lv_at hl 2 rfl) ?_
    refine lv_bipush (v := (8 : Int32)) hx hb dX6_berth_12 (by decide +kernel) ?_
    refine lv_icmp_gt (tgt := 25) hx hb dX6_berth_14 (by decide) (fun c7 => ?_) (fun c7 => ?_)
    · have h := h.1 c7
      exact b25 S5 _ _ (0 + mck3) (0 + msk3) ls hkc hks h hG (lv_sub hl [] rfl)
    · have h := h.2 c7
      refine lv_iload_n hx hb dX6_berth_17 rfl (lv_at hl 1 rfl) ?_
      refine lv_iload_n hx hb dX6_berth_18 rfl (lv_at hl 2 rfl) ?_
      refine lv_iadd hx hb dX6_berth_19 ?_
      refine lv_topi (fun v8 ev8 => ?_)
      have h := h v8 ev8
      refine lv_bipush (v := (16 : Int32)) hx hb dX6_berth_20 (by decide +kernel) ?_
      refine lv_icmp_le (tgt := 35) hx hb dX6_berth_22 (by decide) (fun c9 => ?_) (fun c9 => ?_)
      · have h := h.1 c9
        refine lv_aload_n hx hb dX6_berth_35 rfl (lv_at hl 0 rfl) ?_
        obtain ⟨⟨hL10, fK11⟩, h⟩ := h
        obtain ⟨q12, eq12, h⟩ := h
        refine qr_get (C := RX6) (T := TX6) (N := 8) (ci := 6) hx hb hts in6 hown hG hL10 fK11 (by decide) rfl 0 (by decide) rfl (hts (.fieldLink RX6 12 "QuayMesh" "allShips" "Ljava/util/ArrayList;") (List.mem_of_getElem? (i := 5) rfl)) (fun _ h9 => h9) (v := .ref q12) (qs_rf eq12) dX6_berth_36 ?_
        obtain ⟨⟨hL15, fK16⟩, h⟩ := h
        refine qc_i hG (va_runV (As := []) (rest := []) ⟨hx, hb, hml, hown, hts⟩ (c_Jx4a65c_size_8abf5 l g _ S5 q12 h) (cwV 0 hts gX6_berth_Jx4a65c_size_8abf5 rfl rfl rfl (by decide +kernel) ⟨(Nat.le_of_ble_eq_true rfl), (Nat.le_of_ble_eq_true rfl)⟩) ⟨qs_Pc.blind _ _ _ _, hG.recv hL15 fK16 (by decide) rfl, hG.pre _⟩ rfl rfl hl.1 rfl (lv_room (Nat.le_of_ble_eq_true rfl)) dX6_berth_39 ⟨Nat.le_trans hkc hmR, Nat.le_trans hks hsR⟩) (fun v18 S17 H locs h hG => ?_)
        refine lv_bipush (v := (10 : Int32)) hx hb dX6_berth_42 (by decide +kernel) ?_
        refine lv_icmp_ge (tgt := 58) hx hb dX6_berth_44 (by decide) (fun c19 => ?_) (fun c19 => ?_)
        · have h := h.1 c19
          exact b58 S17 _ _ (0 + mck3) (0 + msk3) ls hkc hks h hG (lv_sub hl [] rfl)
        · have h := h.2 c19
          refine lv_aload_n hx hb dX6_berth_47 rfl (lv_at hl 0 rfl) ?_
          refine lv_iload_n hx hb dX6_berth_48 rfl (lv_at hl 1 rfl) ?_
          refine lv_iload_n hx hb dX6_berth_49 rfl (lv_at hl 1 rfl) ?_
          refine lv_iload_n hx hb dX6_berth_50 rfl (lv_at hl 2 rfl) ?_
          refine lv_iadd hx hb dX6_berth_51 ?_
          refine lv_topi (fun v20 ev20 => ?_)
          have h := h v20 ev20
          obtain ⟨⟨hL23, fK24⟩, h⟩ := h
          refine qc_i hG (va_runV (As := [.int x1z, .int v20]) (rest := []) ⟨hx, hb, hml, hown, hts⟩ (c_X6_isTaken l g _ S17 a0z x1z v20 h) (cwV 2 hts gX6_berth_X6_isTaken rfl rfl rfl (by decide +kernel) ⟨(Nat.le_of_ble_eq_true rfl), (Nat.le_of_ble_eq_true rfl)⟩) ⟨qs_Pc.blind _ _ _ _, hG.recv hL23 fK24 (by decide) rfl, hG.pre _⟩ rfl rfl hl.1 rfl (lv_room (Nat.le_of_ble_eq_true rfl)) dX6_berth_52 ⟨Nat.le_trans hkc hmR, Nat.le_trans hks hsR⟩) (fun v26 S25 H locs h hG => ?_)
          refine lv_if_eq (tgt := 68) hx hb dX6_berth_55 (by decide) (fun c27 => ?_) (fun c27 => ?_)
          · have h := h.1 c27
            refine lv_aload_n hx hb dX6_berth_68 rfl (lv_at hl 0 rfl) ?_
            obtain ⟨⟨hL28, fK29⟩, h⟩ := h
            obtain ⟨q30, eq30, h⟩ := h
            refine qr_get (C := RX6) (T := TX6) (N := 8) (ci := 6) hx hb hts in6 hown hG hL28 fK29 (by decide) rfl 0 (by decide) rfl (hts (.fieldLink RX6 12 "QuayMesh" "allShips" "Ljava/util/ArrayList;") (List.mem_of_getElem? (i := 5) rfl)) (fun _ h9 => h9) (v := .ref q30) (qs_rf eq30) dX6_berth_69 ?_
            obtain ⟨⟨hs32c, hs32s⟩, h⟩ := h
            refine qr_new (C := RX3) (T := TX3) (N := 3) (ci := 4) hx hb hts in4 tyX3 tyX3_ok hown (hts (.classLink RX6 75 "QuayMesh$Ship") (List.mem_of_getElem? (i := 25) rfl)) (hts (.instantiable RX3 3) (List.mem_of_getElem? (i := 7) rfl)) (hts (.initialized RX3) (List.mem_of_getElem? (i := 8) rfl)) hG (by decide) rfl hf9_4 (Nat.le_trans hs32c hmR) (Nat.le_trans hs32s hsR) dX6_berth_72 (fun q31 H hq33 hq33t hG => ?_)
            have hkc := hs32c
            have hks := hs32s
            have h := h q31 hq33 hq33t
            have hL34 := qs_nwL (S := S25) (q := q31) (ci := 4) hL28
            have fK35 := qs_nwK (S := S25) (q := q31) (ci := 4) hq33 hL28 fK29
            have hL36 := qs_nwN (S := S25) (q := q31) (ci := 4)
            have fK37 := qs_nwM (S := S25) (q := q31) (ci := 4)
            refine lv_dup hx hb dX6_berth_75 rfl ?_
            refine lv_iload_n hx hb dX6_berth_76 rfl (lv_at hl 1 rfl) ?_
            refine lv_iload_n hx hb dX6_berth_77 rfl (lv_at hl 1 rfl) ?_
            refine lv_iload_n hx hb dX6_berth_78 rfl (lv_at hl 2 rfl) ?_
            refine lv_iadd hx hb dX6_berth_79 ?_
            refine lv_topi (fun v38 ev38 => ?_)
            have h := h v38 ev38
            refine qc_v hG (va_runI (As := [.int x1z, .int v38]) (rest := [.ref q31, .ref q30]) ⟨hx, hb, hml, hown, hts⟩ (c_X3_init l g _ (qs_nw S25 q31 4) q31 x1z v38 h) (cwI 2 hts gX6_berth_X3_init rfl rfl rfl (hts (.initialized RX3) (List.mem_of_getElem? (i := 8) rfl)) (hts (.methodLink RX6 77 yX3_init) (List.mem_of_getElem? (i := 46) rfl)) (hts (.instanceMethod yX3_init) (List.mem_of_getElem? (i := 47) rfl)) rfl (by decide +kernel) ⟨(Nat.le_of_ble_eq_true rfl), (Nat.le_of_ble_eq_true rfl)⟩) ⟨qs_Pc.blind _ _ _ _, hG.pre _⟩ rfl rfl hl.1 rfl (lv_room (Nat.le_of_ble_eq_true rfl)) dX6_berth_80 ⟨Nat.le_trans hkc hmR, Nat.le_trans hks hsR⟩) (fun S41 H locs h hG => ?_)
            obtain ⟨⟨hL44, fK45⟩, h⟩ := h
            obtain ⟨mck42, msk42, ⟨hs43c, hs43s⟩, h⟩ := h
            refine qc_i hG (va_runV (As := [.ref q31]) (rest := []) ⟨hx, hb, hml, hown, hts⟩ (c_Jx4a65c_add_9ea2d l g _ S41 q30 q31 h) (cwV 1 hts gX6_berth_Jx4a65c_add_9ea2d rfl rfl rfl (by decide +kernel) ⟨(Nat.le_of_ble_eq_true rfl), (Nat.le_of_ble_eq_true rfl)⟩) ⟨qs_Pc.blind _ _ _ _, hG.recv hL44 fK45 (by decide) rfl, hG.pre _⟩ rfl rfl hl.1 rfl (lv_room (Nat.le_of_ble_eq_true rfl)) dX6_berth_83 ⟨Nat.le_trans hs43c hmR, Nat.le_trans hs43s hsR⟩) (fun v47 S46 H locs h hG => ?_)
            have hkc := hs43c
            have hks := hs43s
            refine lv_pop hx hb dX6_berth_86 rfl ?_
            refine lv_aload_n hx hb dX6_berth_87 rfl (lv_at hl 0 rfl) ?_
            obtain ⟨⟨hL48, fK49⟩, h⟩ := h
            obtain ⟨q50, eq50, h⟩ := h
            refine qr_get (C := RX6) (T := TX6) (N := 8) (ci := 6) hx hb hts in6 hown hG hL48 fK49 (by decide) rfl 0 (by decide) rfl (hts (.fieldLink RX6 12 "QuayMesh" "allShips" "Ljava/util/ArrayList;") (List.mem_of_getElem? (i := 5) rfl)) (fun _ h9 => h9) (v := .ref q50) (qs_rf eq50) dX6_berth_88 ?_
            obtain ⟨⟨hL53, fK54⟩, h⟩ := h
            refine qc_i hG (va_runV (As := []) (rest := []) ⟨hx, hb, hml, hown, hts⟩ (c_Jx4a65c_size_8abf5 l g _ S46 q50 h) (cwV 0 hts gX6_berth_Jx4a65c_size_8abf5 rfl rfl rfl (by decide +kernel) ⟨(Nat.le_of_ble_eq_true rfl), (Nat.le_of_ble_eq_true rfl)⟩) ⟨qs_Pc.blind _ _ _ _, hG.recv hL53 fK54 (by decide) rfl, hG.pre _⟩ rfl rfl hl.1 rfl (lv_room (Nat.le_of_ble_eq_true rfl)) dX6_berth_91 ⟨Nat.le_trans hkc hmR, Nat.le_trans hks hsR⟩) (fun v56 S55 H locs h hG => ?_)
            refine lv_iconst (v := (1 : Int32)) hx hb dX6_berth_94 (by decide +kernel) ?_
            refine lv_isub hx hb dX6_berth_95 ?_
            refine lv_topi (fun v57 ev57 => ?_)
            have h := h v57 ev57
            refine vx_ret ?_
            exact qe_i hx hb hr hlk hG h hkc hks dX6_berth_96
          · have h := h.2 c27
            exact b58 S25 _ _ (0 + mck3) (0 + msk3) ls hkc hks h hG (lv_sub hl [] rfl)
      · have h := h.2 c9
        exact b25 S5 _ _ (0 + mck3) (0 + msk3) ls hkc hks h hG (lv_sub hl [] rfl)
def wp_X6_box_b22 (t0 m9 : Nat) (mc ms : Nat) (post : Int32 → qs_S → Prop) (px : String → qs_S → Prop) (k n : Nat) (S : qs_S) : Prop := (k + 1 ≤ mc ∧ n + 6 ≤ ms) ∧ px "java/lang/IllegalArgumentException" S
def wp_X6_box (t0 m9 : Nat) (mc ms : Nat) (post : Int32 → qs_S → Prop) (px : String → qs_S → Prop) (SA : qs_S) (a0z : Nat) (x1z : Int32) (x2z : Int32) : Prop := (a0z ∈ qs_L SA ∧ qs_K SA a0z = 6) ∧ (∃ mck2 msk2 : Nat, (0 + mck2 ≤ mc ∧ 0 + msk2 ≤ ms) ∧ (wp_X6_shipNumbered t0 m9 mck2 msk2 (fun (o7 : Option Nat) (S6 : qs_S) => ∃ q8 : Nat, o7 = some q8 ∧ ((q8 ∈ qs_L S6 ∧ qs_K S6 q8 = 4) ∧ (∀ v11 : Int32, v11 = qs_I S6 0 q8 → (x2z < v11 → (wp_X6_box_b22 t0 m9 mc ms post px (0 + mck2) (0 + msk2) S6)) ∧ (¬ x2z < v11 → (∀ v13 : Int32, v13 = qs_I S6 1 q8 → (x2z < v13 → ((a0z ∈ qs_L S6 ∧ qs_K S6 a0z = 6) ∧ (∃ q17 : Nat, qs_R S6 1 a0z = some q17 ∧ ((q17 ∈ qs_L S6 ∧ qs_K S6 q17 = 0) ∧ (wp_Jx4a65c_size_8abf5 t0 m9 (fun (v23 : Int32) (S22 : qs_S) => (v23 < (24 : Int32) → ((a0z ∈ qs_L S22 ∧ qs_K S22 a0z = 6) ∧ (∃ q27 : Nat, qs_R S22 1 a0z = some q27 ∧ ((0 + mck2 + 1 ≤ mc ∧ 0 + msk2 + 8 ≤ ms) ∧ (∀ q28 : Nat, q28 ∉ qs_L S22 → q28 ≠ t0 → wp_X0_init t0 m9 (fun (S37 : qs_S) => (q27 ∈ qs_L S37 ∧ qs_K S37 q27 = 0) ∧ (∃ mck38 msk38 : Nat, (0 + mck2 + 1 + mck38 ≤ mc ∧ 0 + msk2 + 8 + msk38 ≤ ms) ∧ (wp_Jx4a65c_add_9ea2d t0 m9 mck38 msk38 (fun (v43 : Int32) (S42 : qs_S) => (a0z ∈ qs_L S42 ∧ qs_K S42 a0z = 6) ∧ (∃ q46 : Nat, qs_R S42 1 a0z = some q46 ∧ ((q46 ∈ qs_L S42 ∧ qs_K S42 q46 = 0) ∧ (wp_Jx4a65c_size_8abf5 t0 m9 (fun (v52 : Int32) (S51 : qs_S) => ∀ v53 : Int32, v53 = v52 - (1 : Int32) → post v53 S51) S42 q46)))) S37 q27 q28))) (qs_nw S22 q28 1) q28 q8 x2z))))) ∧ (¬ v23 < (24 : Int32) → ((0 + mck2 + 1 ≤ mc ∧ 0 + msk2 + 6 ≤ ms) ∧ px "java/lang/IllegalStateException" S22))) S6 q17))))) ∧ (¬ x2z < v13 → (wp_X6_box_b22 t0 m9 mc ms post px (0 + mck2) (0 + msk2) S6))))))) px SA a0z x1z))
set_option maxHeartbeats 4000000 in
set_option maxRecDepth 100000 in
theorem c_X6_box (l : Launch) (hl9 : l.stackTraces = false) (g : qs_G) (sz : Nat) (SA : qs_S) (a0z : Nat) (x1z : Int32) (x2z : Int32) {mc ms : Nat} {post : Int32 → qs_S → Prop} {px : String → qs_S → Prop} (h : wp_X6_box g.2.2.2.2.2.2.1 g.2.2.2.2.2.2.2 mc ms post px SA a0z x1z x2z) : vx_Met l yX6_box wsX6_box ({ frames := 8, cells := mc, slots := ms, locals := 191 } : Room) (qs_Pc g sz SA [.ref a0z, .int x1z, .int x2z]) (qs_Qi g (qs_F g SA sz) post) (qs_X g (qs_F g SA sz) px) mc ms (qs_F g SA sz) := by
  refine vx_ofW (cc := cX6_box) (maxL := 4) (ret := (some .int)) (by decide +kernel) rfl ?_
  intro p e s m args below meth c s₁ B hml hnt hv
  obtain ⟨rfl, hsz, hG⟩ := qs_Gd.start hv
  subst hsz
  have hx := B.exec
  have hb := B.bytes
  have hr := B.returns
  have hts := atoms_spec (ws := wsX6_box) B.pre
  have hown : s.vm.findClass RX6 = some m.cls := findClass_of_methodNamed B.named
  have hlk := B.notSynchronized
  have in0 : ∀ w ∈ u_ws RJx4a65c TJx4a65c 3, w ∈ wsX6_box := fun w h => List.mem_cons_of_mem _ (List.mem_append_left _ (List.mem_append_left _ (List.mem_append_left _ (List.mem_append_right _ (h)))))
  have in1 : ∀ w ∈ u_ws RX0 TX0 8, w ∈ wsX6_box := fun w h => List.mem_cons_of_mem _ (List.mem_append_left _ (List.mem_append_left _ (List.mem_append_left _ (List.mem_append_left _ (List.mem_append_right _ (h))))))
  have in4 : ∀ w ∈ u_ws RX3 TX3 3, w ∈ wsX6_box := fun w h => List.mem_cons_of_mem _ (List.mem_append_left _ (List.mem_append_left _ (List.mem_append_left _ (List.mem_append_left _ (List.mem_append_left _ (List.mem_append_left _ (List.mem_append_right _ (h))))))))
  have in6 : ∀ w ∈ u_ws RX6 TX6 8, w ∈ wsX6_box := fun w h => List.mem_cons_of_mem _ (List.mem_append_left _ (List.mem_append_left _ (List.mem_append_left _ (List.mem_append_left _ (List.mem_append_left _ (List.mem_append_right _ (h)))))))
  have hkc : 0 ≤ mc := Nat.zero_le _
  have hks : 0 ≤ ms := Nat.zero_le _
  have hmR : mc ≤ (headSpec wsX6_box ({ frames := 8, cells := mc, slots := ms, locals := 191 } : Room)).room.cells := Nat.le_refl _
  have hsR : ms ≤ (headSpec wsX6_box ({ frames := 8, cells := mc, slots := ms, locals := 191 } : Room)).room.slots := Nat.le_refl _
  have b22 : ∀ (S : qs_S) (H : Heap) (locs : List Loc) (k n : Nat) (ls : Array Slot), k ≤ mc → n ≤ ms → wp_X6_box_b22 g.2.2.2.2.2.2.1 g.2.2.2.2.2.2.2 mc ms post px k n S → qs_Gd g (qs_F g SA s.heap.size) s S H locs → lv_has ls 4 [] → W p l e (headSpec wsX6_box ({ frames := 8, cells := mc, slots := ms, locals := 191 } : Room)).room s m (([.ref a0z, .int x1z, .int x2z] : List Value)).toArray below meth c H locs k n (vx_MQ below (qs_Qi g (qs_F g SA s.heap.size) post) (qs_X g (qs_F g SA s.heap.size) px) (([.ref a0z, .int x1z, .int x2z] : List Value)).toArray s mc ms (qs_F g SA s.heap.size)) (F0 m 22 ls []) := by
    intro S H locs k n ls hkc hks h hG hl
    unfold wp_X6_box_b22 at h
    obtain ⟨⟨hs1c, hs1s⟩, h⟩ := h
    exact qx_throw (ik := 55) (is := 88) (ic := 59) (cls := "java/lang/IllegalArgumentException") hx hb hl9 hts hown (by decide +kernel) (by decide +kernel) (List.mem_of_getElem? (i := 7) rfl) (hts (.classLink RX6 55 "java/lang/IllegalArgumentException") (List.mem_of_getElem? (i := 1) rfl)) (hts (.initialized "java/lang/IllegalArgumentException") (List.mem_of_getElem? (i := 2) rfl)) (fun w h => List.mem_cons_of_mem _ (List.mem_append_left _ (List.mem_append_left _ (List.mem_append_right _ (h))))) qt_bd_IAE qt_gd_IAE hG (hl.1.trans hml.symm) dX6_box_22 dX6_box_25 dX6_box_26 dX6_box_28 dX6_box_31 hnt (Nat.le_of_ble_eq_true rfl) (Nat.le_of_ble_eq_true rfl) hmR hsR hlk h hs1c hs1s
  have hl := lv_entry ([.ref a0z, .int x1z, .int x2z]) (n := 4) (Nat.le_of_ble_eq_true rfl)
  rw [lg_entry_eq]
  generalize (lg_sl ([.ref a0z, .int x1z, .int x2z]) ++ List.replicate (4 - (lg_sl ([.ref a0z, .int x1z, .int x2z])).length) Slot.unset).toArray = ls at hl ⊢
  have hl : lv_has ls 4 [(0, .ref a0z), (1, .int x1z), (2, .int x2z)] := hl
  unfold wp_X6_box at h
  refine lv_aload_n hx hb dX6_box_0 rfl (lv_at hl 0 rfl) ?_
  refine lv_iload_n hx hb dX6_box_1 rfl (lv_at hl 1 rfl) ?_
  obtain ⟨⟨hL4, fK5⟩, h⟩ := h
  obtain ⟨mck2, msk2, ⟨hs3c, hs3s⟩, h⟩ := h
  refine qx_q hG (vx_runV (As := [.int x1z]) (rest := []) ⟨hx, hb, hml, hown, hts⟩ (c_X6_shipNumbered l hl9 g _ SA a0z x1z h) (cwV 1 hts gX6_box_X6_shipNumbered rfl rfl rfl (by decide +kernel) ⟨(Nat.le_of_ble_eq_true rfl), (Nat.le_of_ble_eq_true rfl)⟩) ⟨qs_Pc.blind _ _ _ _, hG.recv hL4 fK5 (by decide) rfl, hG.pre _⟩ rfl rfl hl.1 rfl (lv_room (Nat.le_of_ble_eq_true rfl)) dX6_box_2 ⟨Nat.le_trans hs3c hmR, Nat.le_trans hs3s hsR⟩) (fun E S1 H locs ce q9 hp hG h1 h2 h3 => qx_out hnt hlk hG hp h1 h2 h3 hs3c hs3s) (fun o7 S6 H locs h hG => ?_)
  have hkc := hs3c
  have hks := hs3s
  obtain ⟨q8, rfl, h⟩ := h
  refine lv_astore_n (lv' := [(3, .ref q8), (0, .ref a0z), (1, .int x1z), (2, .int x2z)]) hx hb dX6_box_5 rfl hl (by decide) rfl (fun ls hl => ?_)
  refine lv_iload_n hx hb dX6_box_6 rfl (lv_at hl 3 rfl) ?_
  refine lv_aload_n hx hb dX6_box_7 rfl (lv_at hl 0 rfl) ?_
  obtain ⟨⟨hL9, fK10⟩, h⟩ := h
  refine qr_get (C := RX3) (T := TX3) (N := 3) (ci := 4) hx hb hts in4 hown hG hL9 fK10 (by decide) rfl 0 (by decide) rfl (hts (.fieldLink RX6 82 "QuayMesh$Ship" "begin" "I") (List.mem_of_getElem? (i := 5) rfl)) (fun _ h9 => h9) (v := .int (qs_I S6 0 q8)) rfl dX6_box_8 ?_
  refine lv_topi (fun v11 ev11 => ?_)
  have h := h v11 ev11
  refine lv_icmp_lt (tgt := 22) hx hb dX6_box_11 (by decide) (fun c12 => ?_) (fun c12 => ?_)
  · have h := h.1 c12
    exact b22 S6 _ _ (0 + mck2) (0 + msk2) ls hkc hks h hG (lv_sub hl [] rfl)
  · have h := h.2 c12
    refine lv_iload_n hx hb dX6_box_14 rfl (lv_at hl 3 rfl) ?_
    refine lv_aload_n hx hb dX6_box_15 rfl (lv_at hl 0 rfl) ?_
    refine qr_get (C := RX3) (T := TX3) (N := 3) (ci := 4) hx hb hts in4 hown hG hL9 fK10 (by decide) rfl 1 (by decide) rfl (hts (.fieldLink RX6 85 "QuayMesh$Ship" "end" "I") (List.mem_of_getElem? (i := 6) rfl)) (fun _ h9 => h9) (v := .int (qs_I S6 1 q8)) rfl dX6_box_16 ?_
    refine lv_topi (fun v13 ev13 => ?_)
    have h := h v13 ev13
    refine lv_icmp_lt (tgt := 32) hx hb dX6_box_19 (by decide) (fun c14 => ?_) (fun c14 => ?_)
    · have h := h.1 c14
      refine lv_aload_n hx hb dX6_box_32 rfl (lv_at hl 1 rfl) ?_
      obtain ⟨⟨hL15, fK16⟩, h⟩ := h
      obtain ⟨q17, eq17, h⟩ := h
      refine qr_get (C := RX6) (T := TX6) (N := 8) (ci := 6) hx hb hts in6 hown hG hL15 fK16 (by decide) rfl 1 (by decide) rfl (hts (.fieldLink RX6 16 "QuayMesh" "allBoxes" "Ljava/util/ArrayList;") (List.mem_of_getElem? (i := 7) rfl)) (fun _ h9 => h9) (v := .ref q17) (qs_rf eq17) dX6_box_33 ?_
      obtain ⟨⟨hL20, fK21⟩, h⟩ := h
      refine qc_i hG (va_runV (As := []) (rest := []) ⟨hx, hb, hml, hown, hts⟩ (c_Jx4a65c_size_8abf5 l g _ S6 q17 h) (cwV 0 hts gX6_box_Jx4a65c_size_8abf5 rfl rfl rfl (by decide +kernel) ⟨(Nat.le_of_ble_eq_true rfl), (Nat.le_of_ble_eq_true rfl)⟩) ⟨qs_Pc.blind _ _ _ _, hG.recv hL20 fK21 (by decide) rfl, hG.pre _⟩ rfl rfl hl.1 rfl (lv_room (Nat.le_of_ble_eq_true rfl)) dX6_box_36 ⟨Nat.le_trans hkc hmR, Nat.le_trans hks hsR⟩) (fun v23 S22 H locs h hG => ?_)
      refine lv_bipush (v := (24 : Int32)) hx hb dX6_box_39 (by decide +kernel) ?_
      refine lv_icmp_lt (tgt := 54) hx hb dX6_box_41 (by decide) (fun c24 => ?_) (fun c24 => ?_)
      · have h := h.1 c24
        refine lv_aload_n hx hb dX6_box_54 rfl (lv_at hl 1 rfl) ?_
        obtain ⟨⟨hL25, fK26⟩, h⟩ := h
        obtain ⟨q27, eq27, h⟩ := h
        refine qr_get (C := RX6) (T := TX6) (N := 8) (ci := 6) hx hb hts in6 hown hG hL25 fK26 (by decide) rfl 1 (by decide) rfl (hts (.fieldLink RX6 16 "QuayMesh" "allBoxes" "Ljava/util/ArrayList;") (List.mem_of_getElem? (i := 7) rfl)) (fun _ h9 => h9) (v := .ref q27) (qs_rf eq27) dX6_box_55 ?_
        obtain ⟨⟨hs29c, hs29s⟩, h⟩ := h
        refine qr_new (C := RX0) (T := TX0) (N := 8) (ci := 1) hx hb hts in1 tyX0 tyX0_ok hown (hts (.classLink RX6 92 RX0) (List.mem_of_getElem? (i := 8) rfl)) (hts (.instantiable RX0 8) (List.mem_of_getElem? (i := 9) rfl)) (hts (.initialized RX0) (List.mem_of_getElem? (i := 10) rfl)) hG (by decide) rfl hf9_1 (Nat.le_trans hs29c hmR) (Nat.le_trans hs29s hsR) dX6_box_58 (fun q28 H hq30 hq30t hG => ?_)
        have hkc := hs29c
        have hks := hs29s
        have h := h q28 hq30 hq30t
        have hL31 := qs_nwL (S := S22) (q := q28) (ci := 1) hL25
        have fK32 := qs_nwK (S := S22) (q := q28) (ci := 1) hq30 hL25 fK26
        have hL33 := qs_nwN (S := S22) (q := q28) (ci := 1)
        have fK34 := qs_nwM (S := S22) (q := q28) (ci := 1)
        refine lv_dup hx hb dX6_box_61 rfl ?_
        refine lv_aload_n hx hb dX6_box_62 rfl (lv_at hl 0 rfl) ?_
        refine lv_iload_n hx hb dX6_box_63 rfl (lv_at hl 3 rfl) ?_
        refine qc_v hG (va_runI (As := [.ref q8, .int x2z]) (rest := [.ref q28, .ref q27]) ⟨hx, hb, hml, hown, hts⟩ (c_X0_init l g _ (qs_nw S22 q28 1) q28 q8 x2z h) (cwI 2 hts gX6_box_X0_init rfl rfl rfl (hts (.initialized RX0) (List.mem_of_getElem? (i := 10) rfl)) (hts (.methodLink RX6 94 yX0_init) (List.mem_of_getElem? (i := 47) rfl)) (hts (.instanceMethod yX0_init) (List.mem_of_getElem? (i := 48) rfl)) rfl (by decide +kernel) ⟨(Nat.le_of_ble_eq_true rfl), (Nat.le_of_ble_eq_true rfl)⟩) ⟨qs_Pc.blind _ _ _ _, hG.pre _⟩ rfl rfl hl.1 rfl (lv_room (Nat.le_of_ble_eq_true rfl)) dX6_box_64 ⟨Nat.le_trans hkc hmR, Nat.le_trans hks hsR⟩) (fun S37 H locs h hG => ?_)
        obtain ⟨⟨hL40, fK41⟩, h⟩ := h
        obtain ⟨mck38, msk38, ⟨hs39c, hs39s⟩, h⟩ := h
        refine qc_i hG (va_runV (As := [.ref q28]) (rest := []) ⟨hx, hb, hml, hown, hts⟩ (c_Jx4a65c_add_9ea2d l g _ S37 q27 q28 h) (cwV 1 hts gX6_box_Jx4a65c_add_9ea2d rfl rfl rfl (by decide +kernel) ⟨(Nat.le_of_ble_eq_true rfl), (Nat.le_of_ble_eq_true rfl)⟩) ⟨qs_Pc.blind _ _ _ _, hG.recv hL40 fK41 (by decide) rfl, hG.pre _⟩ rfl rfl hl.1 rfl (lv_room (Nat.le_of_ble_eq_true rfl)) dX6_box_67 ⟨Nat.le_trans hs39c hmR, Nat.le_trans hs39s hsR⟩) (fun v43 S42 H locs h hG => ?_)
        have hkc := hs39c
        have hks := hs39s
        refine lv_pop hx hb dX6_box_70 rfl ?_
        refine lv_aload_n hx hb dX6_box_71 rfl (lv_at hl 1 rfl) ?_
        obtain ⟨⟨hL44, fK45⟩, h⟩ := h
        obtain ⟨q46, eq46, h⟩ := h
        refine qr_get (C := RX6) (T := TX6) (N := 8) (ci := 6) hx hb hts in6 hown hG hL44 fK45 (by decide) rfl 1 (by decide) rfl (hts (.fieldLink RX6 16 "QuayMesh" "allBoxes" "Ljava/util/ArrayList;") (List.mem_of_getElem? (i := 7) rfl)) (fun _ h9 => h9) (v := .ref q46) (qs_rf eq46) dX6_box_72 ?_
        obtain ⟨⟨hL49, fK50⟩, h⟩ := h
        refine qc_i hG (va_runV (As := []) (rest := []) ⟨hx, hb, hml, hown, hts⟩ (c_Jx4a65c_size_8abf5 l g _ S42 q46 h) (cwV 0 hts gX6_box_Jx4a65c_size_8abf5 rfl rfl rfl (by decide +kernel) ⟨(Nat.le_of_ble_eq_true rfl), (Nat.le_of_ble_eq_true rfl)⟩) ⟨qs_Pc.blind _ _ _ _, hG.recv hL49 fK50 (by decide) rfl, hG.pre _⟩ rfl rfl hl.1 rfl (lv_room (Nat.le_of_ble_eq_true rfl)) dX6_box_75 ⟨Nat.le_trans hkc hmR, Nat.le_trans hks hsR⟩) (fun v52 S51 H locs h hG => ?_)
        refine lv_iconst (v := (1 : Int32)) hx hb dX6_box_78 (by decide +kernel) ?_
        refine lv_isub hx hb dX6_box_79 ?_
        refine lv_topi (fun v53 ev53 => ?_)
        have h := h v53 ev53
        refine vx_ret ?_
        exact qe_i hx hb hr hlk hG h hkc hks dX6_box_80
      · have h := h.2 c24
        obtain ⟨⟨hs54c, hs54s⟩, h⟩ := h
        exact qx_throw (ik := 70) (is := 90) (ic := 74) (cls := "java/lang/IllegalStateException") hx hb hl9 hts hown (by decide +kernel) (by decide +kernel) (List.mem_of_getElem? (i := 15) rfl) (hts (.classLink RX6 70 "java/lang/IllegalStateException") (List.mem_of_getElem? (i := 3) rfl)) (hts (.initialized "java/lang/IllegalStateException") (List.mem_of_getElem? (i := 4) rfl)) (fun w h => List.mem_cons_of_mem _ (List.mem_append_left _ (List.mem_append_right _ (h)))) qt_bd_ISE qt_gd_ISE hG (hl.1.trans hml.symm) dX6_box_44 dX6_box_47 dX6_box_48 dX6_box_50 dX6_box_53 hnt (Nat.le_of_ble_eq_true rfl) (Nat.le_of_ble_eq_true rfl) hmR hsR hlk h hs54c hs54s
    · have h := h.2 c14
      exact b22 S6 _ _ (0 + mck2) (0 + msk2) ls hkc hks h hG (lv_sub hl [] rfl)
def wp_X6_leave_b67 (t0 m9 : Nat) (mc ms : Nat) (post : Int32 → qs_S → Prop) (px : String → qs_S → Prop) (K11 : Nat → Nat → qs_S → Nat → Nat → Int32 → Int32 → Prop) (k n : Nat) (S : qs_S) (a0 : Nat) (a2 : Nat) (x3 : Int32) (x4 : Int32) : Prop := ∀ v1 : Int32, v1 = x4 + 1 → K11 k n S a0 a2 x3 v1
def wp_X6_leave_c11 (t0 m9 : Nat) (mc ms : Nat) (post : Int32 → qs_S → Prop) (px : String → qs_S → Prop) (K11 : Nat → Nat → qs_S → Nat → Nat → Int32 → Int32 → Prop) (k n : Nat) (S : qs_S) (a0 : Nat) (a2 : Nat) (x3 : Int32) (x4 : Int32) : Prop := (a0 ∈ qs_L S ∧ qs_K S a0 = 6) ∧ (∃ q4 : Nat, qs_R S 1 a0 = some q4 ∧ ((q4 ∈ qs_L S ∧ qs_K S q4 = 0) ∧ (wp_Jx4a65c_size_8abf5 t0 m9 (fun (v10 : Int32) (S9 : qs_S) => (v10 ≤ x4 → ((a2 ∈ qs_L S9 ∧ qs_K S9 a2 = 4) ∧ (post x3 (qs_wI S9 2 a2 (1 : Int32))))) ∧ (¬ v10 ≤ x4 → ((a0 ∈ qs_L S9 ∧ qs_K S9 a0 = 6) ∧ (∃ q16 : Nat, qs_R S9 1 a0 = some q16 ∧ ((q16 ∈ qs_L S9 ∧ qs_K S9 q16 = 0) ∧ (wp_Jx4a65c_get_915e3 t0 m9 (fun (o22 : Option Nat) (S21 : qs_S) => ∃ q23 : Nat, o22 = some q23 ∧ ((q23 ∈ qs_L S21 ∧ qs_K S21 q23 = 1) ∧ (∃ q26 : Nat, qs_R S21 0 q23 = some q26 ∧ ((¬ q26 = a2 → (wp_X6_leave_b67 t0 m9 mc ms post px K11 k n S21 a0 a2 x3 x4)) ∧ (q26 = a2 → (∀ v28 : Int32, v28 = qs_I S21 2 q23 → (¬ v28 = 0 → (∀ v30 : Int32, v30 = x3 + 1 → wp_X6_leave_b67 t0 m9 mc ms post px K11 k n S21 a0 a2 v30 x4)) ∧ (v28 = 0 → ((k + 1 ≤ mc ∧ n + 6 ≤ ms) ∧ px "java/lang/IllegalStateException" S21)))))))) S9 q16 x4)))))) S q4)))
def wp_X6_leave_b11 (t0 m9 : Nat) (mc ms : Nat) (post : Int32 → qs_S → Prop) (px : String → qs_S → Prop) : Nat → Nat → Nat → qs_S → Nat → Nat → Int32 → Int32 → Prop
  | 0 => fun _ _ _ _ _ _ _ => False
  | n9 + 1 => wp_X6_leave_c11 t0 m9 mc ms post px (wp_X6_leave_b11 t0 m9 mc ms post px n9)
def wp_X6_leave (t0 m9 : Nat) (mc ms : Nat) (post : Int32 → qs_S → Prop) (px : String → qs_S → Prop) (SA : qs_S) (a0z : Nat) (x1z : Int32) : Prop := (a0z ∈ qs_L SA ∧ qs_K SA a0z = 6) ∧ (∃ mck32 msk32 : Nat, (0 + mck32 ≤ mc ∧ 0 + msk32 ≤ ms) ∧ (wp_X6_shipNumbered t0 m9 mck32 msk32 (fun (o37 : Option Nat) (S36 : qs_S) => ∃ q38 : Nat, o37 = some q38 ∧ (∃ n39 : Nat, wp_X6_leave_b11 t0 m9 mc ms post px n39 (0 + mck32) (0 + msk32) S36 a0z q38 (0 : Int32) (0 : Int32))) px SA a0z x1z))
set_option maxHeartbeats 4000000 in
set_option maxRecDepth 100000 in
theorem c_X6_leave (l : Launch) (hl9 : l.stackTraces = false) (g : qs_G) (sz : Nat) (SA : qs_S) (a0z : Nat) (x1z : Int32) {mc ms : Nat} {post : Int32 → qs_S → Prop} {px : String → qs_S → Prop} (h : wp_X6_leave g.2.2.2.2.2.2.1 g.2.2.2.2.2.2.2 mc ms post px SA a0z x1z) : vx_Met l yX6_leave wsX6_leave ({ frames := 8, cells := mc, slots := ms, locals := 133 } : Room) (qs_Pc g sz SA [.ref a0z, .int x1z]) (qs_Qi g (qs_F g SA sz) post) (qs_X g (qs_F g SA sz) px) mc ms (qs_F g SA sz) := by
  refine vx_ofW (cc := cX6_leave) (maxL := 6) (ret := (some .int)) (by decide +kernel) rfl ?_
  intro p e s m args below meth c s₁ B hml hnt hv
  obtain ⟨rfl, hsz, hG⟩ := qs_Gd.start hv
  subst hsz
  have hx := B.exec
  have hb := B.bytes
  have hr := B.returns
  have hts := atoms_spec (ws := wsX6_leave) B.pre
  have hown : s.vm.findClass RX6 = some m.cls := findClass_of_methodNamed B.named
  have hlk := B.notSynchronized
  have in0 : ∀ w ∈ u_ws RJx4a65c TJx4a65c 3, w ∈ wsX6_leave := fun w h => List.mem_cons_of_mem _ (List.mem_append_left _ (List.mem_append_left _ (List.mem_append_right _ (h))))
  have in1 : ∀ w ∈ u_ws RX0 TX0 8, w ∈ wsX6_leave := fun w h => List.mem_cons_of_mem _ (List.mem_append_left _ (List.mem_append_left _ (List.mem_append_left _ (List.mem_append_left _ (List.mem_append_right _ (h))))))
  have in4 : ∀ w ∈ u_ws RX3 TX3 3, w ∈ wsX6_leave := fun w h => List.mem_cons_of_mem _ (List.mem_append_left _ (List.mem_append_left _ (List.mem_append_left _ (List.mem_append_right _ (h)))))
  have in6 : ∀ w ∈ u_ws RX6 TX6 8, w ∈ wsX6_leave := fun w h => List.mem_cons_of_mem _ (List.mem_append_left _ (List.mem_append_left _ (List.mem_append_left _ (List.mem_append_left _ (List.mem_append_left _ (List.mem_append_right _ (h)))))))
  have hkc : 0 ≤ mc := Nat.zero_le _
  have hks : 0 ≤ ms := Nat.zero_le _
  have hmR : mc ≤ (headSpec wsX6_leave ({ frames := 8, cells := mc, slots := ms, locals := 133 } : Room)).room.cells := Nat.le_refl _
  have hsR : ms ≤ (headSpec wsX6_leave ({ frames := 8, cells := mc, slots := ms, locals := 133 } : Room)).room.slots := Nat.le_refl _
  have b67 : ∀ (K11 : Nat → Nat → qs_S → Nat → Nat → Int32 → Int32 → Prop), (∀ (S : qs_S) (a0 : Nat) (a2 : Nat) (x3 : Int32) (x4 : Int32) (H : Heap) (locs : List Loc) (k n : Nat) (ls : Array Slot), k ≤ mc → n ≤ ms → K11 k n S a0 a2 x3 x4 → qs_Gd g (qs_F g SA s.heap.size) s S H locs → lv_has ls 6 [(0, .ref a0), (2, .ref a2), (3, .int x3), (4, .int x4)] → W p l e (headSpec wsX6_leave ({ frames := 8, cells := mc, slots := ms, locals := 133 } : Room)).room s m (([.ref a0z, .int x1z] : List Value)).toArray below meth c H locs k n (vx_MQ below (qs_Qi g (qs_F g SA s.heap.size) post) (qs_X g (qs_F g SA s.heap.size) px) (([.ref a0z, .int x1z] : List Value)).toArray s mc ms (qs_F g SA s.heap.size)) (F0 m 11 ls [])) → ∀ (S : qs_S) (a0 : Nat) (a2 : Nat) (x3 : Int32) (x4 : Int32) (H : Heap) (locs : List Loc) (k n : Nat) (ls : Array Slot), k ≤ mc → n ≤ ms → wp_X6_leave_b67 g.2.2.2.2.2.2.1 g.2.2.2.2.2.2.2 mc ms post px K11 k n S a0 a2 x3 x4 → qs_Gd g (qs_F g SA s.heap.size) s S H locs → lv_has ls 6 [(0, .ref a0), (2, .ref a2), (3, .int x3), (4, .int x4)] → W p l e (headSpec wsX6_leave ({ frames := 8, cells := mc, slots := ms, locals := 133 } : Room)).room s m (([.ref a0z, .int x1z] : List Value)).toArray below meth c H locs k n (vx_MQ below (qs_Qi g (qs_F g SA s.heap.size) post) (qs_X g (qs_F g SA s.heap.size) px) (([.ref a0z, .int x1z] : List Value)).toArray s mc ms (qs_F g SA s.heap.size)) (F0 m 67 ls []) := by
    intro K11 hK11 S a0 a2 x3 x4 H locs k n ls hkc hks h hG hl
    unfold wp_X6_leave_b67 at h
    obtain ⟨v1, ev1⟩ : ∃ y : Int32, y = x4 + 1 := ⟨_, rfl⟩
    have h := h v1 ev1
    refine lv_iinc (v := v1) (lv' := [(4, .int v1), (0, .ref a0), (2, .ref a2), (3, .int x3)]) hx hb dX6_leave_67 hl (k := 3) rfl (by rw [ev1]; rfl) (by decide) rfl (fun ls hl => ?_)
    refine lv_goto (tgt := 11) hx hb dX6_leave_70 (by decide) ?_
    exact hK11 S a0 a2 x3 v1 _ _ k n ls hkc hks h hG (lv_sub hl [1, 2, 3, 0] rfl)
  have c11 : ∀ (K11 : Nat → Nat → qs_S → Nat → Nat → Int32 → Int32 → Prop), (∀ (S : qs_S) (a0 : Nat) (a2 : Nat) (x3 : Int32) (x4 : Int32) (H : Heap) (locs : List Loc) (k n : Nat) (ls : Array Slot), k ≤ mc → n ≤ ms → K11 k n S a0 a2 x3 x4 → qs_Gd g (qs_F g SA s.heap.size) s S H locs → lv_has ls 6 [(0, .ref a0), (2, .ref a2), (3, .int x3), (4, .int x4)] → W p l e (headSpec wsX6_leave ({ frames := 8, cells := mc, slots := ms, locals := 133 } : Room)).room s m (([.ref a0z, .int x1z] : List Value)).toArray below meth c H locs k n (vx_MQ below (qs_Qi g (qs_F g SA s.heap.size) post) (qs_X g (qs_F g SA s.heap.size) px) (([.ref a0z, .int x1z] : List Value)).toArray s mc ms (qs_F g SA s.heap.size)) (F0 m 11 ls [])) → ∀ (S : qs_S) (a0 : Nat) (a2 : Nat) (x3 : Int32) (x4 : Int32) (H : Heap) (locs : List Loc) (k n : Nat) (ls : Array Slot), k ≤ mc → n ≤ ms → wp_X6_leave_c11 g.2.2.2.2.2.2.1 g.2.2.2.2.2.2.2 mc ms post px K11 k n S a0 a2 x3 x4 → qs_Gd g (qs_F g SA s.heap.size) s S H locs → lv_has ls 6 [(0, .ref a0), (2, .ref a2), (3, .int x3), (4, .int x4)] → W p l e (headSpec wsX6_leave ({ frames := 8, cells := mc, slots := ms, locals := 133 } : Room)).room s m (([.ref a0z, .int x1z] : List Value)).toArray below meth c H locs k n (vx_MQ below (qs_Qi g (qs_F g SA s.heap.size) post) (qs_X g (qs_F g SA s.heap.size) px) (([.ref a0z, .int x1z] : List Value)).toArray s mc ms (qs_F g SA s.heap.size)) (F0 m 11 ls []) := by
    intro K11 hK11 S a0 a2 x3 x4 H locs k n ls hkc hks h hG hl
    unfold wp_X6_leave_c11 at h
    refine lv_iload hx hb dX6_leave_11 (lv_at hl 3 rfl) ?_
    refine lv_aload_n hx hb dX6_leave_13 rfl (lv_at hl 0 rfl) ?_
    obtain ⟨⟨hL2, fK3⟩, h⟩ := h
    obtain ⟨q4, eq4, h⟩ := h
    refine qr_get (C := RX6) (T := TX6) (N := 8) (ci := 6) hx hb hts in6 hown hG hL2 fK3 (by decide) rfl 1 (by decide) rfl (hts (.fieldLink RX6 16 "QuayMesh" "allBoxes" "Ljava/util/ArrayList;") (List.mem_of_getElem? (i := 3) rfl)) (fun _ h9 => h9) (v := .ref q4) (qs_rf eq4) dX6_leave_14 ?_
    obtain ⟨⟨hL7, fK8⟩, h⟩ := h
    refine qc_i hG (va_runV (As := []) (rest := [.int x4]) ⟨hx, hb, hml, hown, hts⟩ (c_Jx4a65c_size_8abf5 l g _ S q4 h) (cwV 0 hts gX6_leave_Jx4a65c_size_8abf5 rfl rfl rfl (by decide +kernel) ⟨(Nat.le_of_ble_eq_true rfl), (Nat.le_of_ble_eq_true rfl)⟩) ⟨qs_Pc.blind _ _ _ _, hG.recv hL7 fK8 (by decide) rfl, hG.pre _⟩ rfl rfl hl.1 rfl (lv_room (Nat.le_of_ble_eq_true rfl)) dX6_leave_17 ⟨Nat.le_trans hkc hmR, Nat.le_trans hks hsR⟩) (fun v10 S9 H locs h hG => ?_)
    refine lv_icmp_ge (tgt := 73) hx hb dX6_leave_20 (by decide) (fun c11 => ?_) (fun c11 => ?_)
    · have h := h.1 c11
      refine lv_aload_n hx hb dX6_leave_73 rfl (lv_at hl 1 rfl) ?_
      refine lv_iconst (v := (1 : Int32)) hx hb dX6_leave_74 (by decide +kernel) ?_
      obtain ⟨⟨hL12, fK13⟩, h⟩ := h
      refine qr_putI (C := RX3) (T := TX3) (N := 3) (ci := 4) hx hb hts in4 tyX3 tyX3_ok nmX3 hown hG hL12 fK13 (by decide) rfl 2 (by decide) rfl (hts (.fieldLink RX6 110 "QuayMesh$Ship" "hasLeft" "Z") (List.mem_of_getElem? (i := 7) rfl)) (fun _ h9 => h9) rfl (x := (1 : Int32)) (tyX3_ok 2 (by decide)) (qs_nar01 (Or.inr rfl)) (qs_fit01 (Or.inr rfl)) dX6_leave_75 (fun H locs hG => ?_)
      refine lv_iload_n hx hb dX6_leave_78 rfl (lv_at hl 2 rfl) ?_
      refine vx_ret ?_
      exact qe_i hx hb hr hlk hG h hkc hks dX6_leave_79
    · have h := h.2 c11
      refine lv_aload_n hx hb dX6_leave_23 rfl (lv_at hl 0 rfl) ?_
      obtain ⟨⟨hL14, fK15⟩, h⟩ := h
      obtain ⟨q16, eq16, h⟩ := h
      refine qr_get (C := RX6) (T := TX6) (N := 8) (ci := 6) hx hb hts in6 hown hG hL14 fK15 (by decide) rfl 1 (by decide) rfl (hts (.fieldLink RX6 16 "QuayMesh" "allBoxes" "Ljava/util/ArrayList;") (List.mem_of_getElem? (i := 3) rfl)) (fun _ h9 => h9) (v := .ref q16) (qs_rf eq16) dX6_leave_24 ?_
      refine lv_iload hx hb dX6_leave_27 (lv_at hl 3 rfl) ?_
      obtain ⟨⟨hL19, fK20⟩, h⟩ := h
      refine qc_q hG (va_runV (As := [.int x4]) (rest := []) ⟨hx, hb, hml, hown, hts⟩ (c_Jx4a65c_get_915e3 l g _ S9 q16 x4 h) (cwV 1 hts gX6_leave_Jx4a65c_get_915e3 rfl rfl rfl (by decide +kernel) ⟨(Nat.le_of_ble_eq_true rfl), (Nat.le_of_ble_eq_true rfl)⟩) ⟨qs_Pc.blind _ _ _ _, hG.recv hL19 fK20 (by decide) rfl, hG.pre _⟩ rfl rfl hl.1 rfl (lv_room (Nat.le_of_ble_eq_true rfl)) dX6_leave_29 ⟨Nat.le_trans hkc hmR, Nat.le_trans hks hsR⟩) (fun o22 S21 H locs h hG => ?_)
      obtain ⟨q23, rfl, h⟩ := h
      obtain ⟨⟨hL24, fK25⟩, h⟩ := h
      refine qr_cast (N := 8) hx hb hG hL24 fK25 (by decide) rfl hown (hts (.classLink RX6 92 "QuayMesh$Box") (List.mem_of_getElem? (i := 4) rfl)) dX6_leave_32 ?_
      refine lv_astore (lv' := [(5, .ref q23), (0, .ref a0), (2, .ref a2), (3, .int x3), (4, .int x4)]) hx hb dX6_leave_35 hl (by decide) rfl (fun ls hl => ?_)
      refine lv_aload hx hb dX6_leave_37 (lv_at hl 0 rfl) ?_
      obtain ⟨q26, eq26, h⟩ := h
      refine qr_get (C := RX0) (T := TX0) (N := 8) (ci := 1) hx hb hts in1 hown hG hL24 fK25 (by decide) rfl 0 (by decide) rfl (hts (.fieldLink RX6 101 "QuayMesh$Box" "ship" "LQuayMesh$Ship;") (List.mem_of_getElem? (i := 5) rfl)) (fun _ h9 => h9) (v := .ref q26) (qs_rf eq26) dX6_leave_39 ?_
      refine lv_aload_n hx hb dX6_leave_42 rfl (lv_at hl 2 rfl) ?_
      refine lv_acmp_ne (rx := (some q26)) (ry := (some a2)) (tgt := 67) hx hb dX6_leave_43 (by decide) (fun c27 => ?_) (fun c27 => ?_)
      · have h := h.1 (fun z => c27 (congrArg some z))
        exact b67 K11 hK11 S21 a0 a2 x3 x4 _ _ k n ls hkc hks h hG (lv_sub hl [1, 2, 3, 4] rfl)
      · have h := h.2 (Option.some.inj c27)
        refine lv_aload hx hb dX6_leave_46 (lv_at hl 0 rfl) ?_
        refine qr_get (C := RX0) (T := TX0) (N := 8) (ci := 1) hx hb hts in1 hown hG hL24 fK25 (by decide) rfl 2 (by decide) rfl (hts (.fieldLink RX6 105 "QuayMesh$Box" "where" "I") (List.mem_of_getElem? (i := 6) rfl)) (fun _ h9 => h9) (v := .int (qs_I S21 2 q23)) rfl dX6_leave_48 ?_
        refine lv_topi (fun v28 ev28 => ?_)
        have h := h v28 ev28
        refine lv_if_ne (tgt := 64) hx hb dX6_leave_51 (by decide) (fun c29 => ?_) (fun c29 => ?_)
        · have h := h.1 c29
          obtain ⟨v30, ev30⟩ : ∃ y : Int32, y = x3 + 1 := ⟨_, rfl⟩
          have h := h v30 ev30
          refine lv_iinc (v := v30) (lv' := [(3, .int v30), (5, .ref q23), (0, .ref a0), (2, .ref a2), (4, .int x4)]) hx hb dX6_leave_64 hl (k := 3) rfl (by rw [ev30]; rfl) (by decide) rfl (fun ls hl => ?_)
          exact b67 K11 hK11 S21 a0 a2 v30 x4 _ _ k n ls hkc hks h hG (lv_sub hl [2, 3, 0, 4] rfl)
        · have h := h.2 c29
          obtain ⟨⟨hs31c, hs31s⟩, h⟩ := h
          exact qx_throw (ik := 70) (is := 108) (ic := 74) (cls := "java/lang/IllegalStateException") hx hb hl9 hts hown (by decide +kernel) (by decide +kernel) (List.mem_of_getElem? (i := 17) rfl) (hts (.classLink RX6 70 "java/lang/IllegalStateException") (List.mem_of_getElem? (i := 1) rfl)) (hts (.initialized "java/lang/IllegalStateException") (List.mem_of_getElem? (i := 2) rfl)) (fun w h => List.mem_cons_of_mem _ (List.mem_append_left _ (List.mem_append_right _ (h)))) qt_bd_ISE qt_gd_ISE hG (hl.1.trans hml.symm) dX6_leave_54 dX6_leave_57 dX6_leave_58 dX6_leave_60 dX6_leave_63 hnt (Nat.le_of_ble_eq_true rfl) (Nat.le_of_ble_eq_true rfl) hmR hsR hlk h hs31c hs31s
  have b11 : ∀ n9 : Nat, ∀ (S : qs_S) (a0 : Nat) (a2 : Nat) (x3 : Int32) (x4 : Int32) (H : Heap) (locs : List Loc) (k n : Nat) (ls : Array Slot), k ≤ mc → n ≤ ms → wp_X6_leave_b11 g.2.2.2.2.2.2.1 g.2.2.2.2.2.2.2 mc ms post px n9 k n S a0 a2 x3 x4 → qs_Gd g (qs_F g SA s.heap.size) s S H locs → lv_has ls 6 [(0, .ref a0), (2, .ref a2), (3, .int x3), (4, .int x4)] → W p l e (headSpec wsX6_leave ({ frames := 8, cells := mc, slots := ms, locals := 133 } : Room)).room s m (([.ref a0z, .int x1z] : List Value)).toArray below meth c H locs k n (vx_MQ below (qs_Qi g (qs_F g SA s.heap.size) post) (qs_X g (qs_F g SA s.heap.size) px) (([.ref a0z, .int x1z] : List Value)).toArray s mc ms (qs_F g SA s.heap.size)) (F0 m 11 ls []) := by
    intro n9
    induction n9 with
    | zero =>
      intro S a0 a2 x3 x4 H locs k n ls hkc hks h hG hl
      exact False.elim h
    | succ n9 ih => exact c11 _ ih
  have hl := lv_entry ([.ref a0z, .int x1z]) (n := 6) (Nat.le_of_ble_eq_true rfl)
  rw [lg_entry_eq]
  generalize (lg_sl ([.ref a0z, .int x1z]) ++ List.replicate (6 - (lg_sl ([.ref a0z, .int x1z])).length) Slot.unset).toArray = ls at hl ⊢
  have hl : lv_has ls 6 [(0, .ref a0z), (1, .int x1z)] := hl
  unfold wp_X6_leave at h
  refine lv_aload_n hx hb dX6_leave_0 rfl (lv_at hl 0 rfl) ?_
  refine lv_iload_n hx hb dX6_leave_1 rfl (lv_at hl 1 rfl) ?_
  obtain ⟨⟨hL34, fK35⟩, h⟩ := h
  obtain ⟨mck32, msk32, ⟨hs33c, hs33s⟩, h⟩ := h
  refine qx_q hG (vx_runV (As := [.int x1z]) (rest := []) ⟨hx, hb, hml, hown, hts⟩ (c_X6_shipNumbered l hl9 g _ SA a0z x1z h) (cwV 1 hts gX6_leave_X6_shipNumbered rfl rfl rfl (by decide +kernel) ⟨(Nat.le_of_ble_eq_true rfl), (Nat.le_of_ble_eq_true rfl)⟩) ⟨qs_Pc.blind _ _ _ _, hG.recv hL34 fK35 (by decide) rfl, hG.pre _⟩ rfl rfl hl.1 rfl (lv_room (Nat.le_of_ble_eq_true rfl)) dX6_leave_2 ⟨Nat.le_trans hs33c hmR, Nat.le_trans hs33s hsR⟩) (fun E S1 H locs ce q9 hp hG h1 h2 h3 => qx_out hnt hlk hG hp h1 h2 h3 hs33c hs33s) (fun o37 S36 H locs h hG => ?_)
  have hkc := hs33c
  have hks := hs33s
  obtain ⟨q38, rfl, h⟩ := h
  refine lv_astore_n (lv' := [(2, .ref q38), (0, .ref a0z), (1, .int x1z)]) hx hb dX6_leave_5 rfl hl (by decide) rfl (fun ls hl => ?_)
  refine lv_iconst (v := (0 : Int32)) hx hb dX6_leave_6 (by decide +kernel) ?_
  refine lv_istore_n (lv' := [(3, .int (0 : Int32)), (2, .ref q38), (0, .ref a0z), (1, .int x1z)]) hx hb dX6_leave_7 rfl hl (by decide) rfl (fun ls hl => ?_)
  refine lv_iconst (v := (0 : Int32)) hx hb dX6_leave_8 (by decide +kernel) ?_
  refine lv_istore (lv' := [(4, .int (0 : Int32)), (3, .int (0 : Int32)), (2, .ref q38), (0, .ref a0z), (1, .int x1z)]) hx hb dX6_leave_9 hl (by decide) rfl (fun ls hl => ?_)
  obtain ⟨n39, h⟩ := h
  exact b11 n39 S36 a0z q38 (0 : Int32) (0 : Int32) _ _ (0 + mck32) (0 + msk32) ls hkc hks h hG (lv_sub hl [3, 2, 1, 0] rfl)
def wp_X6_send_b9 (t0 m9 : Nat) (mc ms : Nat) (post : Int32 → qs_S → Prop) (px : String → qs_S → Prop) (k n : Nat) (S : qs_S) : Prop := (k + 1 ≤ mc ∧ n + 6 ≤ ms) ∧ px "java/lang/IllegalArgumentException" S
def wp_X6_send_b98 (t0 m9 : Nat) (mc ms : Nat) (post : Int32 → qs_S → Prop) (px : String → qs_S → Prop) (k n : Nat) (S : qs_S) : Prop := (k + 1 ≤ mc ∧ n + 6 ≤ ms) ∧ px "java/lang/IllegalStateException" S
def wp_X6_send_b79 (t0 m9 : Nat) (mc ms : Nat) (post : Int32 → qs_S → Prop) (px : String → qs_S → Prop) (k n : Nat) (S : qs_S) (a0 : Nat) (x1 : Int32) (x3 : Int32) (a5 : Nat) (o0s : Option Nat) : Prop := (o0s = none → ((a0 ∈ qs_L S ∧ qs_K S a0 = 6) ∧ (∃ q6 : Nat, qs_R S 2 a0 = some q6 ∧ ((q6 ∈ qs_L S ∧ qs_K S q6 = 0) ∧ (wp_Jx4a65c_size_8abf5 t0 m9 (fun (v12 : Int32) (S11 : qs_S) => ((80 : Int32) ≤ v12 → (wp_X6_send_b98 t0 m9 mc ms post px k n S11)) ∧ (¬ (80 : Int32) ≤ v12 → (wp_X6_send_b98 t0 m9 mc ms post px k n S11))) S q6))))) ∧ (∀ q3 : Nat, o0s = some q3 → ((a0 ∈ qs_L S ∧ qs_K S a0 = 6) ∧ (∃ q16 : Nat, qs_R S 2 a0 = some q16 ∧ ((q16 ∈ qs_L S ∧ qs_K S q16 = 0) ∧ (wp_Jx4a65c_size_8abf5 t0 m9 (fun (v22 : Int32) (S21 : qs_S) => ((80 : Int32) ≤ v22 → (wp_X6_send_b98 t0 m9 mc ms post px k n S21)) ∧ (¬ (80 : Int32) ≤ v22 → ((k + 1 ≤ mc ∧ n + 7 ≤ ms) ∧ (∀ q24 : Nat, q24 ∉ qs_L S21 → q24 ≠ t0 → (a0 ∈ qs_L (qs_nw S21 q24 3) ∧ qs_K (qs_nw S21 q24 3) a0 = 6) ∧ (∃ q31 : Nat, qs_R (qs_nw S21 q24 3) 2 a0 = some q31 ∧ ((q31 ∈ qs_L (qs_nw S21 q24 3) ∧ qs_K (qs_nw S21 q24 3) q31 = 0) ∧ (wp_Jx4a65c_size_8abf5 t0 m9 (fun (v37 : Int32) (S36 : qs_S) => wp_X2_init t0 m9 (fun (S40 : qs_S) => (a0 ∈ qs_L S40 ∧ qs_K S40 a0 = 6) ∧ (∃ q43 : Nat, qs_R S40 2 a0 = some q43 ∧ ((q43 ∈ qs_L S40 ∧ qs_K S40 q43 = 0) ∧ (∃ mck44 msk44 : Nat, (k + 1 + mck44 ≤ mc ∧ n + 7 + msk44 ≤ ms) ∧ (wp_Jx4a65c_add_9ea2d t0 m9 mck44 msk44 (fun (v49 : Int32) (S48 : qs_S) => (q3 ∈ qs_L S48 ∧ (qs_K S48 q3 = 2 ∨ qs_K S48 q3 = 5)) ∧ (∃ q52 : Nat, qs_R S48 1 q3 = some q52 ∧ ((q52 ∈ qs_L S48 ∧ qs_K S48 q52 = 0) ∧ (∃ mck53 msk53 : Nat, (k + 1 + mck44 + mck53 ≤ mc ∧ n + 7 + msk44 + msk53 ≤ ms) ∧ (wp_Jx4a65c_add_9ea2d t0 m9 mck53 msk53 (fun (v58 : Int32) (S57 : qs_S) => (q24 ∈ qs_L S57 ∧ qs_K S57 q24 = 3) ∧ (∀ v61 : Int32, v61 = qs_I S57 0 q24 → post v61 S57)) S48 q52 q24))))) S40 q43 q24))))) S36 q24 v37 x1 a5 x3) (qs_nw S21 q24 3) q31))))))) S q16)))))
def wp_X6_send_b59 (t0 m9 : Nat) (mc ms : Nat) (post : Int32 → qs_S → Prop) (px : String → qs_S → Prop) (k n : Nat) (S : qs_S) (a0 : Nat) (x1 : Int32) (x3 : Int32) (x4 : Int32) (a5 : Nat) : Prop := (¬ x4 = (-1 : Int32) → ((a0 ∈ qs_L S ∧ qs_K S a0 = 6) ∧ (∃ mck63 msk63 : Nat, (k + mck63 ≤ mc ∧ n + msk63 ≤ ms) ∧ (wp_X6_workerNumbered t0 m9 mck63 msk63 (fun (o68 : Option Nat) (S67 : qs_S) => ∃ q69 : Nat, o68 = some q69 ∧ (wp_X6_send_b79 t0 m9 mc ms post px (k + mck63) (n + msk63) S67 a0 x1 x3 a5 (some q69))) px S a0 x4)))) ∧ (x4 = (-1 : Int32) → ((a0 ∈ qs_L S ∧ qs_K S a0 = 6) ∧ (∃ mck70 msk70 : Nat, (k + mck70 ≤ mc ∧ n + msk70 ≤ ms) ∧ (wp_X6_leastBusyFor t0 m9 mck70 msk70 (fun (o75 : Option Nat) (S74 : qs_S) => (o75 = none → (wp_X6_send_b79 t0 m9 mc ms post px (k + mck70) (n + msk70) S74 a0 x1 x3 a5 none)) ∧ (∀ q76 : Nat, o75 = some q76 → (wp_X6_send_b79 t0 m9 mc ms post px (k + mck70) (n + msk70) S74 a0 x1 x3 a5 (some q76)))) px S a0 x1))))
def wp_X6_send (t0 m9 : Nat) (mc ms : Nat) (post : Int32 → qs_S → Prop) (px : String → qs_S → Prop) (SA : qs_S) (a0z : Nat) (x1z : Int32) (x2z : Int32) (x3z : Int32) (x4z : Int32) : Prop := (x1z < 0 → (wp_X6_send_b9 t0 m9 mc ms post px 0 0 SA)) ∧ (¬ x1z < 0 → ((x1z ≤ (2 : Int32) → ((a0z ∈ qs_L SA ∧ qs_K SA a0z = 6) ∧ (∃ mck79 msk79 : Nat, (0 + mck79 ≤ mc ∧ 0 + msk79 ≤ ms) ∧ (wp_X6_boxNumbered t0 m9 mck79 msk79 (fun (o84 : Option Nat) (S83 : qs_S) => ∃ q85 : Nat, o84 = some q85 ∧ (wp_X6_targetsOf t0 m9 (fun (v89 : Int32) (S88 : qs_S) => ∃ mck90 msk90 : Nat, (0 + mck79 + mck90 ≤ mc ∧ 0 + msk79 + msk90 ≤ ms) ∧ (wp_X6_requireOneOf t0 m9 mck90 msk90 (fun (S92 : qs_S) => (x4z = (-1 : Int32) → (wp_X6_send_b59 t0 m9 mc ms post px (0 + mck79 + mck90) (0 + msk79 + msk90) S92 a0z x1z x3z x4z q85)) ∧ (¬ x4z = (-1 : Int32) → (wp_X6_isFor t0 m9 (fun (v97 : Int32) (S96 : qs_S) => (¬ v97 = 0 → (wp_X6_send_b59 t0 m9 mc ms post px (0 + mck79 + mck90) (0 + msk79 + msk90) S96 a0z x1z x3z x4z q85)) ∧ (v97 = 0 → ((0 + mck79 + mck90 + 1 ≤ mc ∧ 0 + msk79 + msk90 + 6 ≤ ms) ∧ px "java/lang/IndexOutOfBoundsException" S96))) S92 x1z x4z))) px S88 x3z v89)) S83 x1z)) px SA a0z x2z)))) ∧ (¬ x1z ≤ (2 : Int32) → (wp_X6_send_b9 t0 m9 mc ms post px 0 0 SA))))
set_option maxHeartbeats 4000000 in
set_option maxRecDepth 100000 in
theorem c_X6_send (l : Launch) (hl9 : l.stackTraces = false) (g : qs_G) (sz : Nat) (SA : qs_S) (a0z : Nat) (x1z : Int32) (x2z : Int32) (x3z : Int32) (x4z : Int32) {mc ms : Nat} {post : Int32 → qs_S → Prop} {px : String → qs_S → Prop} (h : wp_X6_send g.2.2.2.2.2.2.1 g.2.2.2.2.2.2.2 mc ms post px SA a0z x1z x2z x3z x4z) : vx_Met l yX6_send wsX6_send ({ frames := 10, cells := mc, slots := ms, locals := 191 } : Room) (qs_Pc g sz SA [.ref a0z, .int x1z, .int x2z, .int x3z, .int x4z]) (qs_Qi g (qs_F g SA sz) post) (qs_X g (qs_F g SA sz) px) mc ms (qs_F g SA sz) := by
  refine vx_ofW (cc := cX6_send) (maxL := 8) (ret := (some .int)) (by decide +kernel) rfl ?_
  intro p e s m args below meth c s₁ B hml hnt hv
  obtain ⟨rfl, hsz, hG⟩ := qs_Gd.start hv
  subst hsz
  have hx := B.exec
  have hb := B.bytes
  have hr := B.returns
  have hts := atoms_spec (ws := wsX6_send) B.pre
  have hown : s.vm.findClass RX6 = some m.cls := findClass_of_methodNamed B.named
  have hlk := B.notSynchronized
  have in0 : ∀ w ∈ u_ws RJx4a65c TJx4a65c 3, w ∈ wsX6_send := fun w h => List.mem_cons_of_mem _ (List.mem_append_left _ (List.mem_append_left _ (List.mem_append_left _ (List.mem_append_right _ (h)))))
  have in2 : ∀ w ∈ u_ws RX1 TX1 8, w ∈ wsX6_send := fun w h => List.mem_cons_of_mem _ (List.mem_append_left _ (List.mem_append_left _ (List.mem_append_left _ (List.mem_append_left _ (List.mem_append_left _ (List.mem_append_right _ (h)))))))
  have in3 : ∀ w ∈ u_ws RX2 TX2 7, w ∈ wsX6_send := fun w h => List.mem_cons_of_mem _ (List.mem_append_left _ (List.mem_append_left _ (List.mem_append_left _ (List.mem_append_left _ (List.mem_append_left _ (List.mem_append_left _ (List.mem_append_right _ (h))))))))
  have in5 : ∀ w ∈ u_ws RX4 TX4 8, w ∈ wsX6_send := fun w h => List.mem_cons_of_mem _ (List.mem_append_left _ (List.mem_append_left _ (List.mem_append_left _ (List.mem_append_left _ (List.mem_append_right _ (h))))))
  have in6 : ∀ w ∈ u_ws RX6 TX6 8, w ∈ wsX6_send := fun w h => List.mem_cons_of_mem _ (List.mem_append_left _ (List.mem_append_left _ (List.mem_append_left _ (List.mem_append_left _ (List.mem_append_left _ (List.mem_append_left _ (List.mem_append_left _ (List.mem_append_right _ (h)))))))))
  have hkc : 0 ≤ mc := Nat.zero_le _
  have hks : 0 ≤ ms := Nat.zero_le _
  have hmR : mc ≤ (headSpec wsX6_send ({ frames := 10, cells := mc, slots := ms, locals := 191 } : Room)).room.cells := Nat.le_refl _
  have hsR : ms ≤ (headSpec wsX6_send ({ frames := 10, cells := mc, slots := ms, locals := 191 } : Room)).room.slots := Nat.le_refl _
  have b9 : ∀ (S : qs_S) (H : Heap) (locs : List Loc) (k n : Nat) (ls : Array Slot), k ≤ mc → n ≤ ms → wp_X6_send_b9 g.2.2.2.2.2.2.1 g.2.2.2.2.2.2.2 mc ms post px k n S → qs_Gd g (qs_F g SA s.heap.size) s S H locs → lv_has ls 8 [] → W p l e (headSpec wsX6_send ({ frames := 10, cells := mc, slots := ms, locals := 191 } : Room)).room s m (([.ref a0z, .int x1z, .int x2z, .int x3z, .int x4z] : List Value)).toArray below meth c H locs k n (vx_MQ below (qs_Qi g (qs_F g SA s.heap.size) post) (qs_X g (qs_F g SA s.heap.size) px) (([.ref a0z, .int x1z, .int x2z, .int x3z, .int x4z] : List Value)).toArray s mc ms (qs_F g SA s.heap.size)) (F0 m 9 ls []) := by
    intro S H locs k n ls hkc hks h hG hl
    unfold wp_X6_send_b9 at h
    obtain ⟨⟨hs1c, hs1s⟩, h⟩ := h
    exact qx_throw (ik := 55) (is := 114) (ic := 59) (cls := "java/lang/IllegalArgumentException") hx hb hl9 hts hown (by decide +kernel) (by decide +kernel) (List.mem_of_getElem? (i := 1) rfl) (hts (.classLink RX6 55 "java/lang/IllegalArgumentException") (List.mem_of_getElem? (i := 1) rfl)) (hts (.initialized "java/lang/IllegalArgumentException") (List.mem_of_getElem? (i := 2) rfl)) (fun w h => List.mem_cons_of_mem _ (List.mem_append_left _ (List.mem_append_left _ (List.mem_append_right _ (h))))) qt_bd_IAE qt_gd_IAE hG (hl.1.trans hml.symm) dX6_send_9 dX6_send_12 dX6_send_13 dX6_send_15 dX6_send_18 hnt (Nat.le_of_ble_eq_true rfl) (Nat.le_of_ble_eq_true rfl) hmR hsR hlk h hs1c hs1s
  have b98 : ∀ (S : qs_S) (H : Heap) (locs : List Loc) (k n : Nat) (ls : Array Slot), k ≤ mc → n ≤ ms → wp_X6_send_b98 g.2.2.2.2.2.2.1 g.2.2.2.2.2.2.2 mc ms post px k n S → qs_Gd g (qs_F g SA s.heap.size) s S H locs → lv_has ls 8 [] → W p l e (headSpec wsX6_send ({ frames := 10, cells := mc, slots := ms, locals := 191 } : Room)).room s m (([.ref a0z, .int x1z, .int x2z, .int x3z, .int x4z] : List Value)).toArray below meth c H locs k n (vx_MQ below (qs_Qi g (qs_F g SA s.heap.size) post) (qs_X g (qs_F g SA s.heap.size) px) (([.ref a0z, .int x1z, .int x2z, .int x3z, .int x4z] : List Value)).toArray s mc ms (qs_F g SA s.heap.size)) (F0 m 98 ls []) := by
    intro S H locs k n ls hkc hks h hG hl
    unfold wp_X6_send_b98 at h
    obtain ⟨⟨hs2c, hs2s⟩, h⟩ := h
    exact qx_throw (ik := 70) (is := 139) (ic := 74) (cls := "java/lang/IllegalStateException") hx hb hl9 hts hown (by decide +kernel) (by decide +kernel) (List.mem_of_getElem? (i := 0) rfl) (hts (.classLink RX6 70 "java/lang/IllegalStateException") (List.mem_of_getElem? (i := 5) rfl)) (hts (.initialized "java/lang/IllegalStateException") (List.mem_of_getElem? (i := 6) rfl)) (fun w h => List.mem_cons_of_mem _ (List.mem_append_right _ (h))) qt_bd_ISE qt_gd_ISE hG (hl.1.trans hml.symm) dX6_send_98 dX6_send_101 dX6_send_102 dX6_send_104 dX6_send_107 hnt (Nat.le_of_ble_eq_true rfl) (Nat.le_of_ble_eq_true rfl) hmR hsR hlk h hs2c hs2s
  have b79 : ∀ (S : qs_S) (a0 : Nat) (x1 : Int32) (x3 : Int32) (a5 : Nat) (o0s : Option Nat) (H : Heap) (locs : List Loc) (k n : Nat) (ls : Array Slot), k ≤ mc → n ≤ ms → wp_X6_send_b79 g.2.2.2.2.2.2.1 g.2.2.2.2.2.2.2 mc ms post px k n S a0 x1 x3 a5 o0s → qs_Gd g (qs_F g SA s.heap.size) s S H locs → lv_has ls 8 [(0, .ref a0), (1, .int x1), (3, .int x3), (5, .ref a5)] → W p l e (headSpec wsX6_send ({ frames := 10, cells := mc, slots := ms, locals := 191 } : Room)).room s m (([.ref a0z, .int x1z, .int x2z, .int x3z, .int x4z] : List Value)).toArray below meth c H locs k n (vx_MQ below (qs_Qi g (qs_F g SA s.heap.size) post) (qs_X g (qs_F g SA s.heap.size) px) (([.ref a0z, .int x1z, .int x2z, .int x3z, .int x4z] : List Value)).toArray s mc ms (qs_F g SA s.heap.size)) (F0 m 79 ls [va_rf o0s]) := by
    intro S a0 x1 x3 a5 o0s H locs k n ls hkc hks h hG hl
    unfold wp_X6_send_b79 at h
    rcases o0s with _ | q3
    · have h := h.1 rfl
      refine lv_astoreN (lv' := [(6, .null), (0, .ref a0), (1, .int x1), (3, .int x3), (5, .ref a5)]) hx hb dX6_send_79 hl (by decide) rfl (fun ls hl => ?_)
      refine lv_aload_n hx hb dX6_send_81 rfl (lv_at hl 1 rfl) ?_
      obtain ⟨⟨hL4, fK5⟩, h⟩ := h
      obtain ⟨q6, eq6, h⟩ := h
      refine qr_get (C := RX6) (T := TX6) (N := 8) (ci := 6) hx hb hts in6 hown hG hL4 fK5 (by decide) rfl 2 (by decide) rfl (hts (.fieldLink RX6 19 "QuayMesh" "allMessages" "Ljava/util/ArrayList;") (List.mem_of_getElem? (i := 7) rfl)) (fun _ h9 => h9) (v := .ref q6) (qs_rf eq6) dX6_send_82 ?_
      obtain ⟨⟨hL9, fK10⟩, h⟩ := h
      refine qc_i hG (va_runV (As := []) (rest := []) ⟨hx, hb, hml, hown, hts⟩ (c_Jx4a65c_size_8abf5 l g _ S q6 h) (cwV 0 hts gX6_send_Jx4a65c_size_8abf5 rfl rfl rfl (by decide +kernel) ⟨(Nat.le_of_ble_eq_true rfl), (Nat.le_of_ble_eq_true rfl)⟩) ⟨qs_Pc.blind _ _ _ _, hG.recv hL9 fK10 (by decide) rfl, hG.pre _⟩ rfl rfl hl.1 rfl (lv_room (Nat.le_of_ble_eq_true rfl)) dX6_send_85 ⟨Nat.le_trans hkc hmR, Nat.le_trans hks hsR⟩) (fun v12 S11 H locs h hG => ?_)
      refine lv_bipush (v := (80 : Int32)) hx hb dX6_send_88 (by decide +kernel) ?_
      refine lv_icmp_ge (tgt := 98) hx hb dX6_send_90 (by decide) (fun c13 => ?_) (fun c13 => ?_)
      · have h := h.1 c13
        exact b98 S11 _ _ k n ls hkc hks h hG (lv_sub hl [] rfl)
      · have h := h.2 c13
        refine lv_aloadN hx hb dX6_send_93 (lv_at hl 0 rfl) ?_
        refine lv_ifnonnullN hx hb dX6_send_95 ?_
        exact b98 S11 _ _ k n ls hkc hks h hG (lv_sub hl [] rfl)
    · have h := h.2 q3 rfl
      refine lv_astore (lv' := [(6, .ref q3), (0, .ref a0), (1, .int x1), (3, .int x3), (5, .ref a5)]) hx hb dX6_send_79 hl (by decide) rfl (fun ls hl => ?_)
      refine lv_aload_n hx hb dX6_send_81 rfl (lv_at hl 1 rfl) ?_
      obtain ⟨⟨hL14, fK15⟩, h⟩ := h
      obtain ⟨q16, eq16, h⟩ := h
      refine qr_get (C := RX6) (T := TX6) (N := 8) (ci := 6) hx hb hts in6 hown hG hL14 fK15 (by decide) rfl 2 (by decide) rfl (hts (.fieldLink RX6 19 "QuayMesh" "allMessages" "Ljava/util/ArrayList;") (List.mem_of_getElem? (i := 7) rfl)) (fun _ h9 => h9) (v := .ref q16) (qs_rf eq16) dX6_send_82 ?_
      obtain ⟨⟨hL19, fK20⟩, h⟩ := h
      refine qc_i hG (va_runV (As := []) (rest := []) ⟨hx, hb, hml, hown, hts⟩ (c_Jx4a65c_size_8abf5 l g _ S q16 h) (cwV 0 hts gX6_send_Jx4a65c_size_8abf5 rfl rfl rfl (by decide +kernel) ⟨(Nat.le_of_ble_eq_true rfl), (Nat.le_of_ble_eq_true rfl)⟩) ⟨qs_Pc.blind _ _ _ _, hG.recv hL19 fK20 (by decide) rfl, hG.pre _⟩ rfl rfl hl.1 rfl (lv_room (Nat.le_of_ble_eq_true rfl)) dX6_send_85 ⟨Nat.le_trans hkc hmR, Nat.le_trans hks hsR⟩) (fun v22 S21 H locs h hG => ?_)
      refine lv_bipush (v := (80 : Int32)) hx hb dX6_send_88 (by decide +kernel) ?_
      refine lv_icmp_ge (tgt := 98) hx hb dX6_send_90 (by decide) (fun c23 => ?_) (fun c23 => ?_)
      · have h := h.1 c23
        exact b98 S21 _ _ k n ls hkc hks h hG (lv_sub hl [] rfl)
      · have h := h.2 c23
        refine lv_aload hx hb dX6_send_93 (lv_at hl 0 rfl) ?_
        refine lv_ifnonnull (tgt := 108) hx hb dX6_send_95 (by decide) ?_
        obtain ⟨⟨hs25c, hs25s⟩, h⟩ := h
        refine qr_new (C := RX2) (T := TX2) (N := 7) (ci := 3) hx hb hts in3 tyX2 tyX2_ok hown (hts (.classLink RX6 141 RX2) (List.mem_of_getElem? (i := 8) rfl)) (hts (.instantiable RX2 7) (List.mem_of_getElem? (i := 9) rfl)) (hts (.initialized RX2) (List.mem_of_getElem? (i := 10) rfl)) hG (by decide) rfl hf9_3 (Nat.le_trans hs25c hmR) (Nat.le_trans hs25s hsR) dX6_send_108 (fun q24 H hq26 hq26t hG => ?_)
        have hkc := hs25c
        have hks := hs25s
        have h := h q24 hq26 hq26t
        have hL27 := qs_nwN (S := S21) (q := q24) (ci := 3)
        have fK28 := qs_nwM (S := S21) (q := q24) (ci := 3)
        refine lv_dup hx hb dX6_send_111 rfl ?_
        refine lv_aload_n hx hb dX6_send_112 rfl (lv_at hl 1 rfl) ?_
        obtain ⟨⟨hL29, fK30⟩, h⟩ := h
        obtain ⟨q31, eq31, h⟩ := h
        refine qr_get (C := RX6) (T := TX6) (N := 8) (ci := 6) hx hb hts in6 hown hG hL29 fK30 (by decide) rfl 2 (by decide) rfl (hts (.fieldLink RX6 19 "QuayMesh" "allMessages" "Ljava/util/ArrayList;") (List.mem_of_getElem? (i := 7) rfl)) (fun _ h9 => h9) (v := .ref q31) (qs_rf eq31) dX6_send_113 ?_
        obtain ⟨⟨hL34, fK35⟩, h⟩ := h
        refine qc_i hG (va_runV (As := []) (rest := [.ref q24, .ref q24]) ⟨hx, hb, hml, hown, hts⟩ (c_Jx4a65c_size_8abf5 l g _ (qs_nw S21 q24 3) q31 h) (cwV 0 hts gX6_send_Jx4a65c_size_8abf5 rfl rfl rfl (by decide +kernel) ⟨(Nat.le_of_ble_eq_true rfl), (Nat.le_of_ble_eq_true rfl)⟩) ⟨qs_Pc.blind _ _ _ _, hG.recv hL34 fK35 (by decide) rfl, hG.pre _⟩ rfl rfl hl.1 rfl (lv_room (Nat.le_of_ble_eq_true rfl)) dX6_send_116 ⟨Nat.le_trans hkc hmR, Nat.le_trans hks hsR⟩) (fun v37 S36 H locs h hG => ?_)
        refine lv_iload_n hx hb dX6_send_119 rfl (lv_at hl 2 rfl) ?_
        refine lv_aload hx hb dX6_send_120 (lv_at hl 4 rfl) ?_
        refine lv_iload_n hx hb dX6_send_122 rfl (lv_at hl 3 rfl) ?_
        refine qc_v hG (va_runI (As := [.int v37, .int x1, .ref a5, .int x3]) (rest := [.ref q24]) ⟨hx, hb, hml, hown, hts⟩ (c_X2_init l g _ S36 q24 v37 x1 a5 x3 h) (cwI 4 hts gX6_send_X2_init rfl rfl rfl (hts (.initialized RX2) (List.mem_of_getElem? (i := 10) rfl)) (hts (.methodLink RX6 143 yX2_init) (List.mem_of_getElem? (i := 73) rfl)) (hts (.instanceMethod yX2_init) (List.mem_of_getElem? (i := 74) rfl)) rfl (by decide +kernel) ⟨(Nat.le_of_ble_eq_true rfl), (Nat.le_of_ble_eq_true rfl)⟩) ⟨qs_Pc.blind _ _ _ _, hG.pre _⟩ rfl rfl hl.1 rfl (lv_room (Nat.le_of_ble_eq_true rfl)) dX6_send_123 ⟨Nat.le_trans hkc hmR, Nat.le_trans hks hsR⟩) (fun S40 H locs h hG => ?_)
        refine lv_astore (lv' := [(7, .ref q24), (6, .ref q3), (0, .ref a0), (1, .int x1), (3, .int x3), (5, .ref a5)]) hx hb dX6_send_126 hl (by decide) rfl (fun ls hl => ?_)
        refine lv_aload_n hx hb dX6_send_128 rfl (lv_at hl 2 rfl) ?_
        obtain ⟨⟨hL41, fK42⟩, h⟩ := h
        obtain ⟨q43, eq43, h⟩ := h
        refine qr_get (C := RX6) (T := TX6) (N := 8) (ci := 6) hx hb hts in6 hown hG hL41 fK42 (by decide) rfl 2 (by decide) rfl (hts (.fieldLink RX6 19 "QuayMesh" "allMessages" "Ljava/util/ArrayList;") (List.mem_of_getElem? (i := 7) rfl)) (fun _ h9 => h9) (v := .ref q43) (qs_rf eq43) dX6_send_129 ?_
        refine lv_aload hx hb dX6_send_132 (lv_at hl 0 rfl) ?_
        obtain ⟨⟨hL46, fK47⟩, h⟩ := h
        obtain ⟨mck44, msk44, ⟨hs45c, hs45s⟩, h⟩ := h
        refine qc_i hG (va_runV (As := [.ref q24]) (rest := []) ⟨hx, hb, hml, hown, hts⟩ (c_Jx4a65c_add_9ea2d l g _ S40 q43 q24 h) (cwV 1 hts gX6_send_Jx4a65c_add_9ea2d rfl rfl rfl (by decide +kernel) ⟨(Nat.le_of_ble_eq_true rfl), (Nat.le_of_ble_eq_true rfl)⟩) ⟨qs_Pc.blind _ _ _ _, hG.recv hL46 fK47 (by decide) rfl, hG.pre _⟩ rfl rfl hl.1 rfl (lv_room (Nat.le_of_ble_eq_true rfl)) dX6_send_134 ⟨Nat.le_trans hs45c hmR, Nat.le_trans hs45s hsR⟩) (fun v49 S48 H locs h hG => ?_)
        have hkc := hs45c
        have hks := hs45s
        refine lv_pop hx hb dX6_send_137 rfl ?_
        refine lv_aload hx hb dX6_send_138 (lv_at hl 1 rfl) ?_
        obtain ⟨⟨hL50, fK51⟩, h⟩ := h
        obtain ⟨q52, eq52, h⟩ := h
        refine qr_getW hx hb hts in2 in5 hown hG hL50 fK51 1 (by decide) rfl ⟨rfl, rfl⟩ (hts (.fieldLink RX6 146 "QuayMesh$Worker" "waiting" "Ljava/util/ArrayList;") (List.mem_of_getElem? (i := 11) rfl)) (fun _ h9 => h9) (fun _ h9 => h9) (v := .ref q52) (qs_rf eq52) dX6_send_140 ?_
        refine lv_aload hx hb dX6_send_143 (lv_at hl 0 rfl) ?_
        obtain ⟨⟨hL55, fK56⟩, h⟩ := h
        obtain ⟨mck53, msk53, ⟨hs54c, hs54s⟩, h⟩ := h
        refine qc_i hG (va_runV (As := [.ref q24]) (rest := []) ⟨hx, hb, hml, hown, hts⟩ (c_Jx4a65c_add_9ea2d l g _ S48 q52 q24 h) (cwV 1 hts gX6_send_Jx4a65c_add_9ea2d rfl rfl rfl (by decide +kernel) ⟨(Nat.le_of_ble_eq_true rfl), (Nat.le_of_ble_eq_true rfl)⟩) ⟨qs_Pc.blind _ _ _ _, hG.recv hL55 fK56 (by decide) rfl, hG.pre _⟩ rfl rfl hl.1 rfl (lv_room (Nat.le_of_ble_eq_true rfl)) dX6_send_145 ⟨Nat.le_trans hs54c hmR, Nat.le_trans hs54s hsR⟩) (fun v58 S57 H locs h hG => ?_)
        have hkc := hs54c
        have hks := hs54s
        refine lv_pop hx hb dX6_send_148 rfl ?_
        refine lv_aload hx hb dX6_send_149 (lv_at hl 0 rfl) ?_
        obtain ⟨⟨hL59, fK60⟩, h⟩ := h
        refine qr_get (C := RX2) (T := TX2) (N := 7) (ci := 3) hx hb hts in3 hown hG hL59 fK60 (by decide) rfl 0 (by decide) rfl (hts (.fieldLink RX6 151 "QuayMesh$Message" "number" "I") (List.mem_of_getElem? (i := 12) rfl)) (fun _ h9 => h9) (v := .int (qs_I S57 0 q24)) rfl dX6_send_151 ?_
        refine lv_topi (fun v61 ev61 => ?_)
        have h := h v61 ev61
        refine vx_ret ?_
        exact qe_i hx hb hr hlk hG h hkc hks dX6_send_154
  have b59 : ∀ (S : qs_S) (a0 : Nat) (x1 : Int32) (x3 : Int32) (x4 : Int32) (a5 : Nat) (H : Heap) (locs : List Loc) (k n : Nat) (ls : Array Slot), k ≤ mc → n ≤ ms → wp_X6_send_b59 g.2.2.2.2.2.2.1 g.2.2.2.2.2.2.2 mc ms post px k n S a0 x1 x3 x4 a5 → qs_Gd g (qs_F g SA s.heap.size) s S H locs → lv_has ls 8 [(0, .ref a0), (1, .int x1), (3, .int x3), (4, .int x4), (5, .ref a5)] → W p l e (headSpec wsX6_send ({ frames := 10, cells := mc, slots := ms, locals := 191 } : Room)).room s m (([.ref a0z, .int x1z, .int x2z, .int x3z, .int x4z] : List Value)).toArray below meth c H locs k n (vx_MQ below (qs_Qi g (qs_F g SA s.heap.size) post) (qs_X g (qs_F g SA s.heap.size) px) (([.ref a0z, .int x1z, .int x2z, .int x3z, .int x4z] : List Value)).toArray s mc ms (qs_F g SA s.heap.size)) (F0 m 59 ls []) := by
    intro S a0 x1 x3 x4 a5 H locs k n ls hkc hks h hG hl
    unfold wp_X6_send_b59 at h
    refine lv_iload hx hb dX6_send_59 (lv_at hl 3 rfl) ?_
    refine lv_iconst (v := (-1 : Int32)) hx hb dX6_send_61 (by decide +kernel) ?_
    refine lv_icmp_ne (tgt := 73) hx hb dX6_send_62 (by decide) (fun c62 => ?_) (fun c62 => ?_)
    · have h := h.1 c62
      refine lv_aload_n hx hb dX6_send_73 rfl (lv_at hl 0 rfl) ?_
      refine lv_iload hx hb dX6_send_74 (lv_at hl 3 rfl) ?_
      obtain ⟨⟨hL65, fK66⟩, h⟩ := h
      obtain ⟨mck63, msk63, ⟨hs64c, hs64s⟩, h⟩ := h
      refine qx_q hG (vx_runV (As := [.int x4]) (rest := []) ⟨hx, hb, hml, hown, hts⟩ (c_X6_workerNumbered l hl9 g _ S a0 x4 h) (cwV 1 hts gX6_send_X6_workerNumbered rfl rfl rfl (by decide +kernel) ⟨(Nat.le_of_ble_eq_true rfl), (Nat.le_of_ble_eq_true rfl)⟩) ⟨qs_Pc.blind _ _ _ _, hG.recv hL65 fK66 (by decide) rfl, hG.pre _⟩ rfl rfl hl.1 rfl (lv_room (Nat.le_of_ble_eq_true rfl)) dX6_send_76 ⟨Nat.le_trans hs64c hmR, Nat.le_trans hs64s hsR⟩) (fun E S1 H locs ce q9 hp hG h1 h2 h3 => qx_out hnt hlk hG hp h1 h2 h3 hs64c hs64s) (fun o68 S67 H locs h hG => ?_)
      have hkc := hs64c
      have hks := hs64s
      obtain ⟨q69, rfl, h⟩ := h
      exact b79 S67 a0 x1 x3 a5 (some q69) _ _ (k + mck63) (n + msk63) ls hkc hks h hG (lv_sub hl [0, 1, 2, 4] rfl)
    · have h := h.2 c62
      refine lv_aload_n hx hb dX6_send_65 rfl (lv_at hl 0 rfl) ?_
      refine lv_iload_n hx hb dX6_send_66 rfl (lv_at hl 1 rfl) ?_
      obtain ⟨⟨hL72, fK73⟩, h⟩ := h
      obtain ⟨mck70, msk70, ⟨hs71c, hs71s⟩, h⟩ := h
      refine qx_q hG (vx_runV (As := [.int x1]) (rest := []) ⟨hx, hb, hml, hown, hts⟩ (c_X6_leastBusyFor l hl9 g _ S a0 x1 h) (cwV 1 hts gX6_send_X6_leastBusyFor rfl rfl rfl (by decide +kernel) ⟨(Nat.le_of_ble_eq_true rfl), (Nat.le_of_ble_eq_true rfl)⟩) ⟨qs_Pc.blind _ _ _ _, hG.recv hL72 fK73 (by decide) rfl, hG.pre _⟩ rfl rfl hl.1 rfl (lv_room (Nat.le_of_ble_eq_true rfl)) dX6_send_67 ⟨Nat.le_trans hs71c hmR, Nat.le_trans hs71s hsR⟩) (fun E S1 H locs ce q9 hp hG h1 h2 h3 => qx_out hnt hlk hG hp h1 h2 h3 hs71c hs71s) (fun o75 S74 H locs h hG => ?_)
      have hkc := hs71c
      have hks := hs71s
      rcases o75 with _ | q76
      · have h := h.1 rfl
        refine lv_goto (tgt := 79) hx hb dX6_send_70 (by decide) ?_
        exact b79 S74 a0 x1 x3 a5 none _ _ (k + mck70) (n + msk70) ls hkc hks h hG (lv_sub hl [0, 1, 2, 4] rfl)
      · have h := h.2 q76 rfl
        refine lv_goto (tgt := 79) hx hb dX6_send_70 (by decide) ?_
        exact b79 S74 a0 x1 x3 a5 (some q76) _ _ (k + mck70) (n + msk70) ls hkc hks h hG (lv_sub hl [0, 1, 2, 4] rfl)
  have hl := lv_entry ([.ref a0z, .int x1z, .int x2z, .int x3z, .int x4z]) (n := 8) (Nat.le_of_ble_eq_true rfl)
  rw [lg_entry_eq]
  generalize (lg_sl ([.ref a0z, .int x1z, .int x2z, .int x3z, .int x4z]) ++ List.replicate (8 - (lg_sl ([.ref a0z, .int x1z, .int x2z, .int x3z, .int x4z])).length) Slot.unset).toArray = ls at hl ⊢
  have hl : lv_has ls 8 [(0, .ref a0z), (1, .int x1z), (2, .int x2z), (3, .int x3z), (4, .int x4z)] := hl
  unfold wp_X6_send at h
  refine lv_iload_n hx hb dX6_send_0 rfl (lv_at hl 1 rfl) ?_
  refine lv_if_lt (tgt := 9) hx hb dX6_send_1 (by decide) (fun c77 => ?_) (fun c77 => ?_)
  · have h := h.1 c77
    exact b9 SA _ _ 0 0 ls hkc hks h hG (lv_sub hl [] rfl)
  · have h := h.2 c77
    refine lv_iload_n hx hb dX6_send_4 rfl (lv_at hl 1 rfl) ?_
    refine lv_iconst (v := (2 : Int32)) hx hb dX6_send_5 (by decide +kernel) ?_
    refine lv_icmp_le (tgt := 19) hx hb dX6_send_6 (by decide) (fun c78 => ?_) (fun c78 => ?_)
    · have h := h.1 c78
      refine lv_aload_n hx hb dX6_send_19 rfl (lv_at hl 0 rfl) ?_
      refine lv_iload_n hx hb dX6_send_20 rfl (lv_at hl 2 rfl) ?_
      obtain ⟨⟨hL81, fK82⟩, h⟩ := h
      obtain ⟨mck79, msk79, ⟨hs80c, hs80s⟩, h⟩ := h
      refine qx_q hG (vx_runV (As := [.int x2z]) (rest := []) ⟨hx, hb, hml, hown, hts⟩ (c_X6_boxNumbered l hl9 g _ SA a0z x2z h) (cwV 1 hts gX6_send_X6_boxNumbered rfl rfl rfl (by decide +kernel) ⟨(Nat.le_of_ble_eq_true rfl), (Nat.le_of_ble_eq_true rfl)⟩) ⟨qs_Pc.blind _ _ _ _, hG.recv hL81 fK82 (by decide) rfl, hG.pre _⟩ rfl rfl hl.1 rfl (lv_room (Nat.le_of_ble_eq_true rfl)) dX6_send_21 ⟨Nat.le_trans hs80c hmR, Nat.le_trans hs80s hsR⟩) (fun E S1 H locs ce q9 hp hG h1 h2 h3 => qx_out hnt hlk hG hp h1 h2 h3 hs80c hs80s) (fun o84 S83 H locs h hG => ?_)
      have hkc := hs80c
      have hks := hs80s
      obtain ⟨q85, rfl, h⟩ := h
      refine lv_astore (lv' := [(5, .ref q85), (0, .ref a0z), (1, .int x1z), (2, .int x2z), (3, .int x3z), (4, .int x4z)]) hx hb dX6_send_24 hl (by decide) rfl (fun ls hl => ?_)
      refine lv_iload_n hx hb dX6_send_26 rfl (lv_at hl 4 rfl) ?_
      refine lv_iload_n hx hb dX6_send_27 rfl (lv_at hl 2 rfl) ?_
      refine qc_i hG (va_runS (As := [.int x1z]) (rest := [.int x3z]) ⟨hx, hb, hml, hown, hts⟩ (c_X6_targetsOf l g _ S83 x1z h) (va_cwS 1 hts gX6_send_X6_targetsOf rfl rfl rfl (by decide +kernel) ⟨(Nat.le_of_ble_eq_true rfl), (Nat.le_of_ble_eq_true rfl)⟩) ⟨qs_Pc.blind _ _ _ _, hG.pre _⟩ rfl rfl hl.1 rfl (lv_room (Nat.le_of_ble_eq_true rfl)) dX6_send_28 ⟨Nat.le_trans hkc hmR, Nat.le_trans hks hsR⟩) (fun v89 S88 H locs h hG => ?_)
      obtain ⟨mck90, msk90, ⟨hs91c, hs91s⟩, h⟩ := h
      refine qx_v hG (vx_runS (As := [.int x3z, .int v89]) (rest := []) ⟨hx, hb, hml, hown, hts⟩ (c_X6_requireOneOf l hl9 g _ S88 x3z v89 h) (va_cwS 2 hts gX6_send_X6_requireOneOf rfl rfl rfl (by decide +kernel) ⟨(Nat.le_of_ble_eq_true rfl), (Nat.le_of_ble_eq_true rfl)⟩) ⟨qs_Pc.blind _ _ _ _, hG.pre _⟩ rfl rfl hl.1 rfl (lv_room (Nat.le_of_ble_eq_true rfl)) dX6_send_31 ⟨Nat.le_trans hs91c hmR, Nat.le_trans hs91s hsR⟩) (fun E S1 H locs ce q9 hp hG h1 h2 h3 => qx_out hnt hlk hG hp h1 h2 h3 hs91c hs91s) (fun S92 H locs h hG => ?_)
      have hkc := hs91c
      have hks := hs91s
      refine lv_iload hx hb dX6_send_34 (lv_at hl 5 rfl) ?_
      refine lv_iconst (v := (-1 : Int32)) hx hb dX6_send_36 (by decide +kernel) ?_
      refine lv_icmp_eq (tgt := 59) hx hb dX6_send_37 (by decide) (fun c93 => ?_) (fun c93 => ?_)
      · have h := h.1 c93
        exact b59 S92 a0z x1z x3z x4z q85 _ _ (0 + mck79 + mck90) (0 + msk79 + msk90) ls hkc hks h hG (lv_sub hl [1, 2, 4, 5, 0] rfl)
      · have h := h.2 c93
        refine lv_iload_n hx hb dX6_send_40 rfl (lv_at hl 2 rfl) ?_
        refine lv_iload hx hb dX6_send_41 (lv_at hl 5 rfl) ?_
        refine qc_i hG (va_runS (As := [.int x1z, .int x4z]) (rest := []) ⟨hx, hb, hml, hown, hts⟩ (c_X6_isFor l g _ S92 x1z x4z h) (va_cwS 2 hts gX6_send_X6_isFor rfl rfl rfl (by decide +kernel) ⟨(Nat.le_of_ble_eq_true rfl), (Nat.le_of_ble_eq_true rfl)⟩) ⟨qs_Pc.blind _ _ _ _, hG.pre _⟩ rfl rfl hl.1 rfl (lv_room (Nat.le_of_ble_eq_true rfl)) dX6_send_43 ⟨Nat.le_trans hkc hmR, Nat.le_trans hks hsR⟩) (fun v97 S96 H locs h hG => ?_)
        refine lv_if_ne (tgt := 59) hx hb dX6_send_46 (by decide) (fun c98 => ?_) (fun c98 => ?_)
        · have h := h.1 c98
          exact b59 S96 a0z x1z x3z x4z q85 _ _ (0 + mck79 + mck90) (0 + msk79 + msk90) ls hkc hks h hG (lv_sub hl [1, 2, 4, 5, 0] rfl)
        · have h := h.2 c98
          obtain ⟨⟨hs99c, hs99s⟩, h⟩ := h
          exact qx_throw (ik := 127) (is := 129) (ic := 131) (cls := "java/lang/IndexOutOfBoundsException") hx hb hl9 hts hown (by decide +kernel) (by decide +kernel) (List.mem_of_getElem? (i := 16) rfl) (hts (.classLink RX6 127 "java/lang/IndexOutOfBoundsException") (List.mem_of_getElem? (i := 3) rfl)) (hts (.initialized "java/lang/IndexOutOfBoundsException") (List.mem_of_getElem? (i := 4) rfl)) (fun w h => List.mem_cons_of_mem _ (List.mem_append_left _ (List.mem_append_right _ (h)))) qt_bd_IOB qt_gd_IOB hG (hl.1.trans hml.symm) dX6_send_49 dX6_send_52 dX6_send_53 dX6_send_55 dX6_send_58 hnt (Nat.le_of_ble_eq_true rfl) (Nat.le_of_ble_eq_true rfl) hmR hsR hlk h hs99c hs99s
    · have h := h.2 c78
      exact b9 SA _ _ 0 0 ls hkc hks h hG (lv_sub hl [] rfl)
def wp_X6_deliver_b59 (t0 m9 : Nat) (mc ms : Nat) (post : Int32 → qs_S → Prop) (px : String → qs_S → Prop) (k n : Nat) (S : qs_S) (x4 : Int32) : Prop := post x4 S
def wp_X6_deliver (t0 m9 : Nat) (mc ms : Nat) (post : Int32 → qs_S → Prop) (px : String → qs_S → Prop) (SA : qs_S) (a0z : Nat) (x1z : Int32) : Prop := (a0z ∈ qs_L SA ∧ qs_K SA a0z = 6) ∧ (∃ mck1 msk1 : Nat, (0 + mck1 ≤ mc ∧ 0 + msk1 ≤ ms) ∧ (wp_X6_workerNumbered t0 m9 mck1 msk1 (fun (o6 : Option Nat) (S5 : qs_S) => ∃ q7 : Nat, o6 = some q7 ∧ ((q7 ∈ qs_L S5 ∧ (qs_K S5 q7 = 2 ∨ qs_K S5 q7 = 5)) ∧ (∃ q10 : Nat, qs_R S5 1 q7 = some q10 ∧ ((q10 ∈ qs_L S5 ∧ qs_K S5 q10 = 0) ∧ (wp_Jx4a65c_isEmpty_aae02 t0 m9 (fun (v16 : Int32) (S15 : qs_S) => (v16 = 0 → ((q7 ∈ qs_L S15 ∧ (qs_K S15 q7 = 2 ∨ qs_K S15 q7 = 5)) ∧ (∃ q20 : Nat, qs_R S15 1 q7 = some q20 ∧ ((q20 ∈ qs_L S15 ∧ qs_K S15 q20 = 0) ∧ (wp_Jx4a65c_get_915e3 t0 m9 (fun (o26 : Option Nat) (S25 : qs_S) => ∃ q27 : Nat, o26 = some q27 ∧ ((q27 ∈ qs_L S25 ∧ qs_K S25 q27 = 3) ∧ (∀ v30 : Int32, v30 = qs_I S25 4 q27 → ∀ v31 : Int32, v31 = v30 + (1 : Int32) → (a0z ∈ qs_L (qs_wI S25 4 q27 v31) ∧ qs_K (qs_wI S25 4 q27 v31) a0z = 6) ∧ (∃ mck32 msk32 : Nat, (0 + mck1 + mck32 ≤ mc ∧ 0 + msk1 + msk32 ≤ ms) ∧ (wp_X6_handOver t0 m9 mck32 msk32 (fun (v37 : Int32) (S36 : qs_S) => (v37 = (4 : Int32) → (wp_X6_deliver_b59 t0 m9 mc ms post px (0 + mck1 + mck32) (0 + msk1 + msk32) S36 v37)) ∧ (¬ v37 = (4 : Int32) → ((q7 ∈ qs_L S36 ∧ (qs_K S36 q7 = 2 ∨ qs_K S36 q7 = 5)) ∧ (∃ mck39 msk39 : Nat, (0 + mck1 + mck32 + mck39 ≤ mc ∧ 0 + msk1 + msk32 + msk39 ≤ ms) ∧ (wp_X5_putLast t0 m9 mck39 msk39 (fun (S43 : qs_S) => wp_X6_deliver_b59 t0 m9 mc ms post px (0 + mck1 + mck32 + mck39) (0 + msk1 + msk32 + msk39) S43 v37) S36 q7 q27))))) px (qs_wI S25 4 q27 v31) a0z q7 q27))))) S15 q20 (0 : Int32)))))) ∧ (¬ v16 = 0 → (post (0 : Int32) S15))) S5 q10))))) px SA a0z x1z))
set_option maxHeartbeats 4000000 in
set_option maxRecDepth 100000 in
theorem c_X6_deliver (l : Launch) (hl9 : l.stackTraces = false) (g : qs_G) (sz : Nat) (SA : qs_S) (a0z : Nat) (x1z : Int32) {mc ms : Nat} {post : Int32 → qs_S → Prop} {px : String → qs_S → Prop} (h : wp_X6_deliver g.2.2.2.2.2.2.1 g.2.2.2.2.2.2.2 mc ms post px SA a0z x1z) : vx_Met l yX6_deliver wsX6_deliver ({ frames := 11, cells := mc, slots := ms, locals := 258 } : Room) (qs_Pc g sz SA [.ref a0z, .int x1z]) (qs_Qi g (qs_F g SA sz) post) (qs_X g (qs_F g SA sz) px) mc ms (qs_F g SA sz) := by
  refine vx_ofW (cc := cX6_deliver) (maxL := 5) (ret := (some .int)) (by decide +kernel) rfl ?_
  intro p e s m args below meth c s₁ B hml hnt hv
  obtain ⟨rfl, hsz, hG⟩ := qs_Gd.start hv
  subst hsz
  have hx := B.exec
  have hb := B.bytes
  have hr := B.returns
  have hts := atoms_spec (ws := wsX6_deliver) B.pre
  have hown : s.vm.findClass RX6 = some m.cls := findClass_of_methodNamed B.named
  have hlk := B.notSynchronized
  have in0 : ∀ w ∈ u_ws RJx4a65c TJx4a65c 3, w ∈ wsX6_deliver := fun w h => List.mem_cons_of_mem _ (List.mem_append_left _ (List.mem_append_left _ (List.mem_append_right _ (h))))
  have in1 : ∀ w ∈ u_ws RX0 TX0 8, w ∈ wsX6_deliver := fun w h => List.mem_cons_of_mem _ (List.mem_append_left _ (List.mem_append_right _ (h)))
  have in2 : ∀ w ∈ u_ws RX1 TX1 8, w ∈ wsX6_deliver := fun w h => List.mem_cons_of_mem _ (List.mem_append_left _ (List.mem_append_left _ (List.mem_append_left _ (List.mem_append_left _ (List.mem_append_left _ (List.mem_append_left _ (List.mem_append_right _ (h))))))))
  have in3 : ∀ w ∈ u_ws RX2 TX2 7, w ∈ wsX6_deliver := fun w h => List.mem_cons_of_mem _ (List.mem_append_left _ (List.mem_append_left _ (List.mem_append_left _ (List.mem_append_left _ (List.mem_append_right _ (h))))))
  have in5 : ∀ w ∈ u_ws RX4 TX4 8, w ∈ wsX6_deliver := fun w h => List.mem_cons_of_mem _ (List.mem_append_left _ (List.mem_append_left _ (List.mem_append_left _ (List.mem_append_left _ (List.mem_append_left _ (List.mem_append_right _ (h)))))))
  have in6 : ∀ w ∈ u_ws RX6 TX6 8, w ∈ wsX6_deliver := fun w h => List.mem_cons_of_mem _ (List.mem_append_left _ (List.mem_append_left _ (List.mem_append_left _ (List.mem_append_right _ (h)))))
  have hkc : 0 ≤ mc := Nat.zero_le _
  have hks : 0 ≤ ms := Nat.zero_le _
  have hmR : mc ≤ (headSpec wsX6_deliver ({ frames := 11, cells := mc, slots := ms, locals := 258 } : Room)).room.cells := Nat.le_refl _
  have hsR : ms ≤ (headSpec wsX6_deliver ({ frames := 11, cells := mc, slots := ms, locals := 258 } : Room)).room.slots := Nat.le_refl _
  have b59 : ∀ (S : qs_S) (x4 : Int32) (H : Heap) (locs : List Loc) (k n : Nat) (ls : Array Slot), k ≤ mc → n ≤ ms → wp_X6_deliver_b59 g.2.2.2.2.2.2.1 g.2.2.2.2.2.2.2 mc ms post px k n S x4 → qs_Gd g (qs_F g SA s.heap.size) s S H locs → lv_has ls 5 [(4, .int x4)] → W p l e (headSpec wsX6_deliver ({ frames := 11, cells := mc, slots := ms, locals := 258 } : Room)).room s m (([.ref a0z, .int x1z] : List Value)).toArray below meth c H locs k n (vx_MQ below (qs_Qi g (qs_F g SA s.heap.size) post) (qs_X g (qs_F g SA s.heap.size) px) (([.ref a0z, .int x1z] : List Value)).toArray s mc ms (qs_F g SA s.heap.size)) (F0 m 59 ls []) := by
    intro S x4 H locs k n ls hkc hks h hG hl
    unfold wp_X6_deliver_b59 at h
    refine lv_iload hx hb dX6_deliver_59 (lv_at hl 0 rfl) ?_
    refine vx_ret ?_
    exact qe_i hx hb hr hlk hG h hkc hks dX6_deliver_61
  have hl := lv_entry ([.ref a0z, .int x1z]) (n := 5) (Nat.le_of_ble_eq_true rfl)
  rw [lg_entry_eq]
  generalize (lg_sl ([.ref a0z, .int x1z]) ++ List.replicate (5 - (lg_sl ([.ref a0z, .int x1z])).length) Slot.unset).toArray = ls at hl ⊢
  have hl : lv_has ls 5 [(0, .ref a0z), (1, .int x1z)] := hl
  unfold wp_X6_deliver at h
  refine lv_aload_n hx hb dX6_deliver_0 rfl (lv_at hl 0 rfl) ?_
  refine lv_iload_n hx hb dX6_deliver_1 rfl (lv_at hl 1 rfl) ?_
  obtain ⟨⟨hL3, fK4⟩, h⟩ := h
  obtain ⟨mck1, msk1, ⟨hs2c, hs2s⟩, h⟩ := h
  refine qx_q hG (vx_runV (As := [.int x1z]) (rest := []) ⟨hx, hb, hml, hown, hts⟩ (c_X6_workerNumbered l hl9 g _ SA a0z x1z h) (cwV 1 hts gX6_deliver_X6_workerNumbered rfl rfl rfl (by decide +kernel) ⟨(Nat.le_of_ble_eq_true rfl), (Nat.le_of_ble_eq_true rfl)⟩) ⟨qs_Pc.blind _ _ _ _, hG.recv hL3 fK4 (by decide) rfl, hG.pre _⟩ rfl rfl hl.1 rfl (lv_room (Nat.le_of_ble_eq_true rfl)) dX6_deliver_2 ⟨Nat.le_trans hs2c hmR, Nat.le_trans hs2s hsR⟩) (fun E S1 H locs ce q9 hp hG h1 h2 h3 => qx_out hnt hlk hG hp h1 h2 h3 hs2c hs2s) (fun o6 S5 H locs h hG => ?_)
  have hkc := hs2c
  have hks := hs2s
  obtain ⟨q7, rfl, h⟩ := h
  refine lv_astore_n (lv' := [(2, .ref q7), (0, .ref a0z), (1, .int x1z)]) hx hb dX6_deliver_5 rfl hl (by decide) rfl (fun ls hl => ?_)
  refine lv_aload_n hx hb dX6_deliver_6 rfl (lv_at hl 0 rfl) ?_
  obtain ⟨⟨hL8, fK9⟩, h⟩ := h
  obtain ⟨q10, eq10, h⟩ := h
  refine qr_getW hx hb hts in2 in5 hown hG hL8 fK9 1 (by decide) rfl ⟨rfl, rfl⟩ (hts (.fieldLink RX6 146 "QuayMesh$Worker" "waiting" "Ljava/util/ArrayList;") (List.mem_of_getElem? (i := 1) rfl)) (fun _ h9 => h9) (fun _ h9 => h9) (v := .ref q10) (qs_rf eq10) dX6_deliver_7 ?_
  obtain ⟨⟨hL13, fK14⟩, h⟩ := h
  refine qc_i hG (va_runV (As := []) (rest := []) ⟨hx, hb, hml, hown, hts⟩ (c_Jx4a65c_isEmpty_aae02 l g _ S5 q10 h) (cwV 0 hts gX6_deliver_Jx4a65c_isEmpty_aae02 rfl rfl rfl (by decide +kernel) ⟨(Nat.le_of_ble_eq_true rfl), (Nat.le_of_ble_eq_true rfl)⟩) ⟨qs_Pc.blind _ _ _ _, hG.recv hL13 fK14 (by decide) rfl, hG.pre _⟩ rfl rfl hl.1 rfl (lv_room (Nat.le_of_ble_eq_true rfl)) dX6_deliver_10 ⟨Nat.le_trans hkc hmR, Nat.le_trans hks hsR⟩) (fun v16 S15 H locs h hG => ?_)
  refine lv_if_eq (tgt := 18) hx hb dX6_deliver_13 (by decide) (fun c17 => ?_) (fun c17 => ?_)
  · have h := h.1 c17
    refine lv_aload_n hx hb dX6_deliver_18 rfl (lv_at hl 0 rfl) ?_
    obtain ⟨⟨hL18, fK19⟩, h⟩ := h
    obtain ⟨q20, eq20, h⟩ := h
    refine qr_getW hx hb hts in2 in5 hown hG hL18 fK19 1 (by decide) rfl ⟨rfl, rfl⟩ (hts (.fieldLink RX6 146 "QuayMesh$Worker" "waiting" "Ljava/util/ArrayList;") (List.mem_of_getElem? (i := 1) rfl)) (fun _ h9 => h9) (fun _ h9 => h9) (v := .ref q20) (qs_rf eq20) dX6_deliver_19 ?_
    refine lv_iconst (v := (0 : Int32)) hx hb dX6_deliver_22 (by decide +kernel) ?_
    obtain ⟨⟨hL23, fK24⟩, h⟩ := h
    refine qc_q hG (va_runV (As := [.int (0 : Int32)]) (rest := []) ⟨hx, hb, hml, hown, hts⟩ (c_Jx4a65c_get_915e3 l g _ S15 q20 (0 : Int32) h) (cwV 1 hts gX6_deliver_Jx4a65c_get_915e3 rfl rfl rfl (by decide +kernel) ⟨(Nat.le_of_ble_eq_true rfl), (Nat.le_of_ble_eq_true rfl)⟩) ⟨qs_Pc.blind _ _ _ _, hG.recv hL23 fK24 (by decide) rfl, hG.pre _⟩ rfl rfl hl.1 rfl (lv_room (Nat.le_of_ble_eq_true rfl)) dX6_deliver_23 ⟨Nat.le_trans hkc hmR, Nat.le_trans hks hsR⟩) (fun o26 S25 H locs h hG => ?_)
    obtain ⟨q27, rfl, h⟩ := h
    obtain ⟨⟨hL28, fK29⟩, h⟩ := h
    refine qr_cast (N := 7) hx hb hG hL28 fK29 (by decide) rfl hown (hts (.classLink RX6 141 "QuayMesh$Message") (List.mem_of_getElem? (i := 2) rfl)) dX6_deliver_26 ?_
    refine lv_astore_n (lv' := [(3, .ref q27), (2, .ref q7), (0, .ref a0z), (1, .int x1z)]) hx hb dX6_deliver_29 rfl hl (by decide) rfl (fun ls hl => ?_)
    refine lv_aload_n hx hb dX6_deliver_30 rfl (lv_at hl 0 rfl) ?_
    refine lv_dup hx hb dX6_deliver_31 rfl ?_
    refine qr_get (C := RX2) (T := TX2) (N := 7) (ci := 3) hx hb hts in3 hown hG hL28 fK29 (by decide) rfl 4 (by decide) rfl (hts (.fieldLink RX6 158 "QuayMesh$Message" "timesHanded" "I") (List.mem_of_getElem? (i := 3) rfl)) (fun _ h9 => h9) (v := .int (qs_I S25 4 q27)) rfl dX6_deliver_32 ?_
    refine lv_topi (fun v30 ev30 => ?_)
    have h := h v30 ev30
    refine lv_iconst (v := (1 : Int32)) hx hb dX6_deliver_35 (by decide +kernel) ?_
    refine lv_iadd hx hb dX6_deliver_36 ?_
    refine lv_topi (fun v31 ev31 => ?_)
    have h := h v31 ev31
    refine qr_putI (C := RX2) (T := TX2) (N := 7) (ci := 3) hx hb hts in3 tyX2 tyX2_ok nmX2 hown hG hL28 fK29 (by decide) rfl 4 (by decide) rfl (hts (.fieldLink RX6 158 "QuayMesh$Message" "timesHanded" "I") (List.mem_of_getElem? (i := 3) rfl)) (fun _ h9 => h9) rfl (x := v31) (tyX2_ok 4 (by decide)) rfl rfl dX6_deliver_37 (fun H locs hG => ?_)
    refine lv_aload_n hx hb dX6_deliver_40 rfl (lv_at hl 2 rfl) ?_
    refine lv_aload_n hx hb dX6_deliver_41 rfl (lv_at hl 1 rfl) ?_
    refine lv_aload_n hx hb dX6_deliver_42 rfl (lv_at hl 0 rfl) ?_
    obtain ⟨⟨hL34, fK35⟩, h⟩ := h
    obtain ⟨mck32, msk32, ⟨hs33c, hs33s⟩, h⟩ := h
    refine qx_i hG (vx_runV (As := [.ref q7, .ref q27]) (rest := []) ⟨hx, hb, hml, hown, hts⟩ (c_X6_handOver l hl9 g _ (qs_wI S25 4 q27 v31) a0z q7 q27 h) (cwV 2 hts gX6_deliver_X6_handOver rfl rfl rfl (by decide +kernel) ⟨(Nat.le_of_ble_eq_true rfl), (Nat.le_of_ble_eq_true rfl)⟩) ⟨qs_Pc.blind _ _ _ _, hG.recv hL34 fK35 (by decide) rfl, hG.pre _⟩ rfl rfl hl.1 rfl (lv_room (Nat.le_of_ble_eq_true rfl)) dX6_deliver_43 ⟨Nat.le_trans hs33c hmR, Nat.le_trans hs33s hsR⟩) (fun E S1 H locs ce q9 hp hG h1 h2 h3 => qx_out hnt hlk hG hp h1 h2 h3 hs33c hs33s) (fun v37 S36 H locs h hG => ?_)
    have hkc := hs33c
    have hks := hs33s
    refine lv_istore (lv' := [(4, .int v37), (3, .ref q27), (2, .ref q7), (0, .ref a0z), (1, .int x1z)]) hx hb dX6_deliver_46 hl (by decide) rfl (fun ls hl => ?_)
    refine lv_iload hx hb dX6_deliver_48 (lv_at hl 0 rfl) ?_
    refine lv_iconst (v := (4 : Int32)) hx hb dX6_deliver_50 (by decide +kernel) ?_
    refine lv_icmp_eq (tgt := 59) hx hb dX6_deliver_51 (by decide) (fun c38 => ?_) (fun c38 => ?_)
    · have h := h.1 c38
      exact b59 S36 v37 _ _ (0 + mck1 + mck32) (0 + msk1 + msk32) ls hkc hks h hG (lv_sub hl [0] rfl)
    · have h := h.2 c38
      refine lv_aload_n hx hb dX6_deliver_54 rfl (lv_at hl 2 rfl) ?_
      refine lv_aload_n hx hb dX6_deliver_55 rfl (lv_at hl 1 rfl) ?_
      obtain ⟨⟨hL41, fK42⟩, h⟩ := h
      obtain ⟨mck39, msk39, ⟨hs40c, hs40s⟩, h⟩ := h
      refine qc_v hG (Or.elim fK42 (fun hk9 => va_runU (As := [.ref q27]) (rest := []) ⟨hx, hb, hml, hown, hts⟩ (c_X5_putLast l g _ S36 q7 q27 h) (va_cwU 1 hts gX6_deliver_X5_putLast_u165X1 rfl rfl rfl rfl (by decide +kernel) ⟨(Nat.le_of_ble_eq_true rfl), (Nat.le_of_ble_eq_true rfl)⟩) ⟨qs_Pc.blind _ _ _ _, hG.recv hL41 hk9 (by decide) rfl, hG.pre _⟩ rfl rfl hl.1 rfl (lv_room (Nat.le_of_ble_eq_true rfl)) dX6_deliver_56 ⟨Nat.le_trans hs40c hmR, Nat.le_trans hs40s hsR⟩) (fun hk9 => va_runU (As := [.ref q27]) (rest := []) ⟨hx, hb, hml, hown, hts⟩ (c_X5_putLast l g _ S36 q7 q27 h) (va_cwU 1 hts gX6_deliver_X5_putLast_u165X4 rfl rfl rfl rfl (by decide +kernel) ⟨(Nat.le_of_ble_eq_true rfl), (Nat.le_of_ble_eq_true rfl)⟩) ⟨qs_Pc.blind _ _ _ _, hG.recv hL41 hk9 (by decide) rfl, hG.pre _⟩ rfl rfl hl.1 rfl (lv_room (Nat.le_of_ble_eq_true rfl)) dX6_deliver_56 ⟨Nat.le_trans hs40c hmR, Nat.le_trans hs40s hsR⟩)) (fun S43 H locs h hG => ?_)
      have hkc := hs40c
      have hks := hs40s
      exact b59 S43 v37 _ _ (0 + mck1 + mck32 + mck39) (0 + msk1 + msk32 + msk39) ls hkc hks h hG (lv_sub hl [0] rfl)
  · have h := h.2 c17
    refine lv_iconst (v := (0 : Int32)) hx hb dX6_deliver_16 (by decide +kernel) ?_
    refine vx_ret ?_
    exact qe_i hx hb hr hlk hG h hkc hks dX6_deliver_17
def wp_X6_act (t0 m9 : Nat) (mc ms : Nat) (post : Int32 → qs_S → Prop) (px : String → qs_S → Prop) (SA : qs_S) (a0z : Nat) (x1z : Int32) : Prop := (a0z ∈ qs_L SA ∧ qs_K SA a0z = 6) ∧ (∃ mck1 msk1 : Nat, (0 + mck1 ≤ mc ∧ 0 + msk1 ≤ ms) ∧ (wp_X6_truckNumbered t0 m9 mck1 msk1 (fun (o6 : Option Nat) (S5 : qs_S) => ∃ q7 : Nat, o6 = some q7 ∧ ((q7 ∈ qs_L S5 ∧ qs_K S5 q7 = 5) ∧ ((qs_R S5 7 q7 = none → (post (0 : Int32) S5)) ∧ (∀ q10 : Nat, qs_R S5 7 q7 = some q10 → (wp_X6_isNothingToDo t0 m9 (fun (v14 : Int32) (S13 : qs_S) => (v14 = 0 → ((q10 ∈ qs_L S13 ∧ qs_K S13 q10 = 3) ∧ (∃ q18 : Nat, qs_R S13 2 q10 = some q18 ∧ ((q18 ∈ qs_L S13 ∧ qs_K S13 q18 = 1) ∧ (wp_X0_isAt t0 m9 (fun (v24 : Int32) (S23 : qs_S) => (v24 = 0 → ((q10 ∈ qs_L S23 ∧ qs_K S23 q10 = 3) ∧ (∃ q28 : Nat, qs_R S23 2 q10 = some q28 ∧ ((a0z ∈ qs_L S23 ∧ qs_K S23 a0z = 6) ∧ (wp_X6_canTake t0 m9 (fun (v34 : Int32) (S33 : qs_S) => (¬ v34 = 0 → ((q10 ∈ qs_L S33 ∧ qs_K S33 q10 = 3) ∧ (∃ q38 : Nat, qs_R S33 2 q10 = some q38 ∧ ((q38 ∈ qs_L S33 ∧ qs_K S33 q38 = 1) ∧ (wp_X0_bring t0 m9 (fun (S43 : qs_S) => post (7 : Int32) S43) S33 q38 (2 : Int32) x1z))))) ∧ (v34 = 0 → (post (3 : Int32) S33))) S23 a0z x1z q28))))) ∧ (¬ v24 = 0 → ((a0z ∈ qs_L S23 ∧ qs_K S23 a0z = 6) ∧ (wp_X6_canPutDown t0 m9 (fun (v49 : Int32) (S48 : qs_S) => (¬ v49 = 0 → ((a0z ∈ qs_L S48 ∧ qs_K S48 a0z = 6) ∧ (wp_X6_putDown t0 m9 (fun (S55 : qs_S) => (a0z ∈ qs_L S55 ∧ qs_K S55 a0z = 6) ∧ (∃ mck56 msk56 : Nat, (0 + mck1 + mck56 ≤ mc ∧ 0 + msk1 + msk56 ≤ ms) ∧ (wp_X6_finish t0 m9 mck56 msk56 (fun (v61 : Int32) (S60 : qs_S) => post v61 S60) S55 a0z q7 q10))) S48 a0z q10))) ∧ (v49 = 0 → (post (3 : Int32) S48))) S23 a0z q10)))) S13 q18 (2 : Int32) x1z))))) ∧ (¬ v14 = 0 → ((a0z ∈ qs_L S13 ∧ qs_K S13 a0z = 6) ∧ (∃ mck62 msk62 : Nat, (0 + mck1 + mck62 ≤ mc ∧ 0 + msk1 + msk62 ≤ ms) ∧ (wp_X6_finish t0 m9 mck62 msk62 (fun (v67 : Int32) (S66 : qs_S) => post v67 S66) S13 a0z q7 q10))))) S5 q10))))) px SA a0z x1z))
set_option maxHeartbeats 4000000 in
set_option maxRecDepth 100000 in
theorem c_X6_act (l : Launch) (hl9 : l.stackTraces = false) (g : qs_G) (sz : Nat) (SA : qs_S) (a0z : Nat) (x1z : Int32) {mc ms : Nat} {post : Int32 → qs_S → Prop} {px : String → qs_S → Prop} (h : wp_X6_act g.2.2.2.2.2.2.1 g.2.2.2.2.2.2.2 mc ms post px SA a0z x1z) : vx_Met l yX6_act wsX6_act ({ frames := 9, cells := mc, slots := ms, locals := 235 } : Room) (qs_Pc g sz SA [.ref a0z, .int x1z]) (qs_Qi g (qs_F g SA sz) post) (qs_X g (qs_F g SA sz) px) mc ms (qs_F g SA sz) := by
  refine vx_ofW (cc := cX6_act) (maxL := 4) (ret := (some .int)) (by decide +kernel) rfl ?_
  intro p e s m args below meth c s₁ B hml hnt hv
  obtain ⟨rfl, hsz, hG⟩ := qs_Gd.start hv
  subst hsz
  have hx := B.exec
  have hb := B.bytes
  have hr := B.returns
  have hts := atoms_spec (ws := wsX6_act) B.pre
  have hown : s.vm.findClass RX6 = some m.cls := findClass_of_methodNamed B.named
  have hlk := B.notSynchronized
  have in0 : ∀ w ∈ u_ws RJx4a65c TJx4a65c 3, w ∈ wsX6_act := fun w h => List.mem_cons_of_mem _ (List.mem_append_left _ (List.mem_append_left _ (List.mem_append_left _ (List.mem_append_right _ (h)))))
  have in1 : ∀ w ∈ u_ws RX0 TX0 8, w ∈ wsX6_act := fun w h => List.mem_cons_of_mem _ (List.mem_append_left _ (List.mem_append_left _ (List.mem_append_right _ (h))))
  have in2 : ∀ w ∈ u_ws RX1 TX1 8, w ∈ wsX6_act := fun w h => List.mem_cons_of_mem _ (List.mem_append_left _ (List.mem_append_right _ (h)))
  have in3 : ∀ w ∈ u_ws RX2 TX2 7, w ∈ wsX6_act := fun w h => List.mem_cons_of_mem _ (List.mem_append_left _ (List.mem_append_left _ (List.mem_append_left _ (List.mem_append_left _ (List.mem_append_left _ (List.mem_append_right _ (h)))))))
  have in5 : ∀ w ∈ u_ws RX4 TX4 8, w ∈ wsX6_act := fun w h => List.mem_cons_of_mem _ (List.mem_append_left _ (List.mem_append_left _ (List.mem_append_left _ (List.mem_append_left _ (List.mem_append_left _ (List.mem_append_left _ (List.mem_append_right _ (h))))))))
  have in6 : ∀ w ∈ u_ws RX6 TX6 8, w ∈ wsX6_act := fun w h => List.mem_cons_of_mem _ (List.mem_append_left _ (List.mem_append_left _ (List.mem_append_left _ (List.mem_append_left _ (List.mem_append_right _ (h))))))
  have hkc : 0 ≤ mc := Nat.zero_le _
  have hks : 0 ≤ ms := Nat.zero_le _
  have hmR : mc ≤ (headSpec wsX6_act ({ frames := 9, cells := mc, slots := ms, locals := 235 } : Room)).room.cells := Nat.le_refl _
  have hsR : ms ≤ (headSpec wsX6_act ({ frames := 9, cells := mc, slots := ms, locals := 235 } : Room)).room.slots := Nat.le_refl _
  have hl := lv_entry ([.ref a0z, .int x1z]) (n := 4) (Nat.le_of_ble_eq_true rfl)
  rw [lg_entry_eq]
  generalize (lg_sl ([.ref a0z, .int x1z]) ++ List.replicate (4 - (lg_sl ([.ref a0z, .int x1z])).length) Slot.unset).toArray = ls at hl ⊢
  have hl : lv_has ls 4 [(0, .ref a0z), (1, .int x1z)] := hl
  unfold wp_X6_act at h
  refine lv_aload_n hx hb dX6_act_0 rfl (lv_at hl 0 rfl) ?_
  refine lv_iload_n hx hb dX6_act_1 rfl (lv_at hl 1 rfl) ?_
  obtain ⟨⟨hL3, fK4⟩, h⟩ := h
  obtain ⟨mck1, msk1, ⟨hs2c, hs2s⟩, h⟩ := h
  refine qx_q hG (vx_runV (As := [.int x1z]) (rest := []) ⟨hx, hb, hml, hown, hts⟩ (c_X6_truckNumbered l hl9 g _ SA a0z x1z h) (cwV 1 hts gX6_act_X6_truckNumbered rfl rfl rfl (by decide +kernel) ⟨(Nat.le_of_ble_eq_true rfl), (Nat.le_of_ble_eq_true rfl)⟩) ⟨qs_Pc.blind _ _ _ _, hG.recv hL3 fK4 (by decide) rfl, hG.pre _⟩ rfl rfl hl.1 rfl (lv_room (Nat.le_of_ble_eq_true rfl)) dX6_act_2 ⟨Nat.le_trans hs2c hmR, Nat.le_trans hs2s hsR⟩) (fun E S1 H locs ce q9 hp hG h1 h2 h3 => qx_out hnt hlk hG hp h1 h2 h3 hs2c hs2s) (fun o6 S5 H locs h hG => ?_)
  have hkc := hs2c
  have hks := hs2s
  obtain ⟨q7, rfl, h⟩ := h
  refine lv_astore_n (lv' := [(2, .ref q7), (0, .ref a0z), (1, .int x1z)]) hx hb dX6_act_5 rfl hl (by decide) rfl (fun ls hl => ?_)
  refine lv_aload_n hx hb dX6_act_6 rfl (lv_at hl 0 rfl) ?_
  obtain ⟨⟨hL8, fK9⟩, h⟩ := h
  rcases eq10 : qs_R S5 7 q7 with _ | q10
  · have h := h.1 eq10
    refine qr_get (C := RX4) (T := TX4) (N := 8) (ci := 5) hx hb hts in5 hown hG hL8 fK9 (by decide) rfl 7 (by decide) rfl (hts (.fieldLink RX6 173 "QuayMesh$Truck" "lastSeen" "LQuayMesh$Message;") (List.mem_of_getElem? (i := 1) rfl)) (fun _ h9 => h9) (v := .null) (qs_rn eq10) dX6_act_7 ?_
    refine lv_astore_nN (lv' := [(3, .null), (2, .ref q7), (0, .ref a0z), (1, .int x1z)]) hx hb dX6_act_10 rfl hl (by decide) rfl (fun ls hl => ?_)
    refine lv_aload_nN hx hb dX6_act_11 rfl (lv_at hl 0 rfl) ?_
    refine lv_ifnonnullN hx hb dX6_act_12 ?_
    refine lv_iconst (v := (0 : Int32)) hx hb dX6_act_15 (by decide +kernel) ?_
    refine vx_ret ?_
    exact qe_i hx hb hr hlk hG h hkc hks dX6_act_16
  · have h := h.2 q10 eq10
    refine qr_get (C := RX4) (T := TX4) (N := 8) (ci := 5) hx hb hts in5 hown hG hL8 fK9 (by decide) rfl 7 (by decide) rfl (hts (.fieldLink RX6 173 "QuayMesh$Truck" "lastSeen" "LQuayMesh$Message;") (List.mem_of_getElem? (i := 1) rfl)) (fun _ h9 => h9) (v := .ref q10) (qs_rf eq10) dX6_act_7 ?_
    refine lv_astore_n (lv' := [(3, .ref q10), (2, .ref q7), (0, .ref a0z), (1, .int x1z)]) hx hb dX6_act_10 rfl hl (by decide) rfl (fun ls hl => ?_)
    refine lv_aload_n hx hb dX6_act_11 rfl (lv_at hl 0 rfl) ?_
    refine lv_ifnonnull (tgt := 17) hx hb dX6_act_12 (by decide) ?_
    refine lv_aload_n hx hb dX6_act_17 rfl (lv_at hl 0 rfl) ?_
    refine qc_i hG (va_runS (As := [.ref q10]) (rest := []) ⟨hx, hb, hml, hown, hts⟩ (c_X6_isNothingToDo l g _ S5 q10 h) (va_cwS 1 hts gX6_act_X6_isNothingToDo rfl rfl rfl (by decide +kernel) ⟨(Nat.le_of_ble_eq_true rfl), (Nat.le_of_ble_eq_true rfl)⟩) ⟨qs_Pc.blind _ _ _ _, hG.pre _⟩ rfl rfl hl.1 rfl (lv_room (Nat.le_of_ble_eq_true rfl)) dX6_act_18 ⟨Nat.le_trans hkc hmR, Nat.le_trans hks hsR⟩) (fun v14 S13 H locs h hG => ?_)
    refine lv_if_eq (tgt := 31) hx hb dX6_act_21 (by decide) (fun c15 => ?_) (fun c15 => ?_)
    · have h := h.1 c15
      refine lv_aload_n hx hb dX6_act_31 rfl (lv_at hl 0 rfl) ?_
      obtain ⟨⟨hL16, fK17⟩, h⟩ := h
      obtain ⟨q18, eq18, h⟩ := h
      refine qr_get (C := RX2) (T := TX2) (N := 7) (ci := 3) hx hb hts in3 hown hG hL16 fK17 (by decide) rfl 2 (by decide) rfl (hts (.fieldLink RX6 185 "QuayMesh$Message" "box" "LQuayMesh$Box;") (List.mem_of_getElem? (i := 2) rfl)) (fun _ h9 => h9) (v := .ref q18) (qs_rf eq18) dX6_act_32 ?_
      refine lv_iconst (v := (2 : Int32)) hx hb dX6_act_35 (by decide +kernel) ?_
      refine lv_iload_n hx hb dX6_act_36 rfl (lv_at hl 3 rfl) ?_
      obtain ⟨⟨hL21, fK22⟩, h⟩ := h
      refine qc_i hG (va_runV (As := [.int (2 : Int32), .int x1z]) (rest := []) ⟨hx, hb, hml, hown, hts⟩ (c_X0_isAt l g _ S13 q18 (2 : Int32) x1z h) (cwV 2 hts gX6_act_X0_isAt rfl rfl rfl (by decide +kernel) ⟨(Nat.le_of_ble_eq_true rfl), (Nat.le_of_ble_eq_true rfl)⟩) ⟨qs_Pc.blind _ _ _ _, hG.recv hL21 fK22 (by decide) rfl, hG.pre _⟩ rfl rfl hl.1 rfl (lv_room (Nat.le_of_ble_eq_true rfl)) dX6_act_37 ⟨Nat.le_trans hkc hmR, Nat.le_trans hks hsR⟩) (fun v24 S23 H locs h hG => ?_)
      refine lv_if_eq (tgt := 65) hx hb dX6_act_40 (by decide) (fun c25 => ?_) (fun c25 => ?_)
      · have h := h.1 c25
        refine lv_aload_n hx hb dX6_act_65 rfl (lv_at hl 2 rfl) ?_
        refine lv_iload_n hx hb dX6_act_66 rfl (lv_at hl 3 rfl) ?_
        refine lv_aload_n hx hb dX6_act_67 rfl (lv_at hl 0 rfl) ?_
        obtain ⟨⟨hL26, fK27⟩, h⟩ := h
        obtain ⟨q28, eq28, h⟩ := h
        refine qr_get (C := RX2) (T := TX2) (N := 7) (ci := 3) hx hb hts in3 hown hG hL26 fK27 (by decide) rfl 2 (by decide) rfl (hts (.fieldLink RX6 185 "QuayMesh$Message" "box" "LQuayMesh$Box;") (List.mem_of_getElem? (i := 2) rfl)) (fun _ h9 => h9) (v := .ref q28) (qs_rf eq28) dX6_act_68 ?_
        obtain ⟨⟨hL31, fK32⟩, h⟩ := h
        refine qc_i hG (va_runV (As := [.int x1z, .ref q28]) (rest := []) ⟨hx, hb, hml, hown, hts⟩ (c_X6_canTake l g _ S23 a0z x1z q28 h) (cwV 2 hts gX6_act_X6_canTake rfl rfl rfl (by decide +kernel) ⟨(Nat.le_of_ble_eq_true rfl), (Nat.le_of_ble_eq_true rfl)⟩) ⟨qs_Pc.blind _ _ _ _, hG.recv hL31 fK32 (by decide) rfl, hG.pre _⟩ rfl rfl hl.1 rfl (lv_room (Nat.le_of_ble_eq_true rfl)) dX6_act_71 ⟨Nat.le_trans hkc hmR, Nat.le_trans hks hsR⟩) (fun v34 S33 H locs h hG => ?_)
        refine lv_if_ne (tgt := 79) hx hb dX6_act_74 (by decide) (fun c35 => ?_) (fun c35 => ?_)
        · have h := h.1 c35
          refine lv_aload_n hx hb dX6_act_79 rfl (lv_at hl 0 rfl) ?_
          obtain ⟨⟨hL36, fK37⟩, h⟩ := h
          obtain ⟨q38, eq38, h⟩ := h
          refine qr_get (C := RX2) (T := TX2) (N := 7) (ci := 3) hx hb hts in3 hown hG hL36 fK37 (by decide) rfl 2 (by decide) rfl (hts (.fieldLink RX6 185 "QuayMesh$Message" "box" "LQuayMesh$Box;") (List.mem_of_getElem? (i := 2) rfl)) (fun _ h9 => h9) (v := .ref q38) (qs_rf eq38) dX6_act_80 ?_
          refine lv_iconst (v := (2 : Int32)) hx hb dX6_act_83 (by decide +kernel) ?_
          refine lv_iload_n hx hb dX6_act_84 rfl (lv_at hl 3 rfl) ?_
          obtain ⟨⟨hL41, fK42⟩, h⟩ := h
          refine qc_v hG (va_runV (As := [.int (2 : Int32), .int x1z]) (rest := []) ⟨hx, hb, hml, hown, hts⟩ (c_X0_bring l g _ S33 q38 (2 : Int32) x1z h) (cwV 2 hts gX6_act_X0_bring rfl rfl rfl (by decide +kernel) ⟨(Nat.le_of_ble_eq_true rfl), (Nat.le_of_ble_eq_true rfl)⟩) ⟨qs_Pc.blind _ _ _ _, hG.recv hL41 fK42 (by decide) rfl, hG.pre _⟩ rfl rfl hl.1 rfl (lv_room (Nat.le_of_ble_eq_true rfl)) dX6_act_85 ⟨Nat.le_trans hkc hmR, Nat.le_trans hks hsR⟩) (fun S43 H locs h hG => ?_)
          refine lv_bipush (v := (7 : Int32)) hx hb dX6_act_88 (by decide +kernel) ?_
          refine vx_ret ?_
          exact qe_i hx hb hr hlk hG h hkc hks dX6_act_90
        · have h := h.2 c35
          refine lv_iconst (v := (3 : Int32)) hx hb dX6_act_77 (by decide +kernel) ?_
          refine vx_ret ?_
          exact qe_i hx hb hr hlk hG h hkc hks dX6_act_78
      · have h := h.2 c25
        refine lv_aload_n hx hb dX6_act_43 rfl (lv_at hl 2 rfl) ?_
        refine lv_aload_n hx hb dX6_act_44 rfl (lv_at hl 0 rfl) ?_
        obtain ⟨⟨hL46, fK47⟩, h⟩ := h
        refine qc_i hG (va_runV (As := [.ref q10]) (rest := []) ⟨hx, hb, hml, hown, hts⟩ (c_X6_canPutDown l g _ S23 a0z q10 h) (cwV 1 hts gX6_act_X6_canPutDown rfl rfl rfl (by decide +kernel) ⟨(Nat.le_of_ble_eq_true rfl), (Nat.le_of_ble_eq_true rfl)⟩) ⟨qs_Pc.blind _ _ _ _, hG.recv hL46 fK47 (by decide) rfl, hG.pre _⟩ rfl rfl hl.1 rfl (lv_room (Nat.le_of_ble_eq_true rfl)) dX6_act_45 ⟨Nat.le_trans hkc hmR, Nat.le_trans hks hsR⟩) (fun v49 S48 H locs h hG => ?_)
        refine lv_if_ne (tgt := 53) hx hb dX6_act_48 (by decide) (fun c50 => ?_) (fun c50 => ?_)
        · have h := h.1 c50
          refine lv_aload_n hx hb dX6_act_53 rfl (lv_at hl 2 rfl) ?_
          refine lv_aload_n hx hb dX6_act_54 rfl (lv_at hl 0 rfl) ?_
          obtain ⟨⟨hL53, fK54⟩, h⟩ := h
          refine qc_v hG (va_runV (As := [.ref q10]) (rest := []) ⟨hx, hb, hml, hown, hts⟩ (c_X6_putDown l g _ S48 a0z q10 h) (cwV 1 hts gX6_act_X6_putDown rfl rfl rfl (by decide +kernel) ⟨(Nat.le_of_ble_eq_true rfl), (Nat.le_of_ble_eq_true rfl)⟩) ⟨qs_Pc.blind _ _ _ _, hG.recv hL53 fK54 (by decide) rfl, hG.pre _⟩ rfl rfl hl.1 rfl (lv_room (Nat.le_of_ble_eq_true rfl)) dX6_act_55 ⟨Nat.le_trans hkc hmR, Nat.le_trans hks hsR⟩) (fun S55 H locs h hG => ?_)
          refine lv_aload_n hx hb dX6_act_58 rfl (lv_at hl 2 rfl) ?_
          refine lv_aload_n hx hb dX6_act_59 rfl (lv_at hl 1 rfl) ?_
          refine lv_aload_n hx hb dX6_act_60 rfl (lv_at hl 0 rfl) ?_
          obtain ⟨⟨hL58, fK59⟩, h⟩ := h
          obtain ⟨mck56, msk56, ⟨hs57c, hs57s⟩, h⟩ := h
          refine qc_i hG (va_runV (As := [.ref q7, .ref q10]) (rest := []) ⟨hx, hb, hml, hown, hts⟩ (c_X6_finish l g _ S55 a0z q7 q10 h) (cwV 2 hts gX6_act_X6_finish rfl rfl rfl (by decide +kernel) ⟨(Nat.le_of_ble_eq_true rfl), (Nat.le_of_ble_eq_true rfl)⟩) ⟨qs_Pc.blind _ _ _ _, hG.recv hL58 fK59 (by decide) rfl, hG.pre _⟩ rfl rfl hl.1 rfl (lv_room (Nat.le_of_ble_eq_true rfl)) dX6_act_61 ⟨Nat.le_trans hs57c hmR, Nat.le_trans hs57s hsR⟩) (fun v61 S60 H locs h hG => ?_)
          have hkc := hs57c
          have hks := hs57s
          refine vx_ret ?_
          exact qe_i hx hb hr hlk hG h hkc hks dX6_act_64
        · have h := h.2 c50
          refine lv_iconst (v := (3 : Int32)) hx hb dX6_act_51 (by decide +kernel) ?_
          refine vx_ret ?_
          exact qe_i hx hb hr hlk hG h hkc hks dX6_act_52
    · have h := h.2 c15
      refine lv_aload_n hx hb dX6_act_24 rfl (lv_at hl 2 rfl) ?_
      refine lv_aload_n hx hb dX6_act_25 rfl (lv_at hl 1 rfl) ?_
      refine lv_aload_n hx hb dX6_act_26 rfl (lv_at hl 0 rfl) ?_
      obtain ⟨⟨hL64, fK65⟩, h⟩ := h
      obtain ⟨mck62, msk62, ⟨hs63c, hs63s⟩, h⟩ := h
      refine qc_i hG (va_runV (As := [.ref q7, .ref q10]) (rest := []) ⟨hx, hb, hml, hown, hts⟩ (c_X6_finish l g _ S13 a0z q7 q10 h) (cwV 2 hts gX6_act_X6_finish rfl rfl rfl (by decide +kernel) ⟨(Nat.le_of_ble_eq_true rfl), (Nat.le_of_ble_eq_true rfl)⟩) ⟨qs_Pc.blind _ _ _ _, hG.recv hL64 fK65 (by decide) rfl, hG.pre _⟩ rfl rfl hl.1 rfl (lv_room (Nat.le_of_ble_eq_true rfl)) dX6_act_27 ⟨Nat.le_trans hs63c hmR, Nat.le_trans hs63s hsR⟩) (fun v67 S66 H locs h hG => ?_)
      have hkc := hs63c
      have hks := hs63s
      refine vx_ret ?_
      exact qe_i hx hb hr hlk hG h hkc hks dX6_act_30
def wp_X6_lose_b18 (t0 m9 : Nat) (mc ms : Nat) (post : Int32 → qs_S → Prop) (px : String → qs_S → Prop) (k n : Nat) (S : qs_S) : Prop := (k + 1 ≤ mc ∧ n + 6 ≤ ms) ∧ px "java/lang/IllegalArgumentException" S
def wp_X6_lose (t0 m9 : Nat) (mc ms : Nat) (post : Int32 → qs_S → Prop) (px : String → qs_S → Prop) (SA : qs_S) (a0z : Nat) (x1z : Int32) (x2z : Int32) (x3z : Int32) : Prop := (a0z ∈ qs_L SA ∧ qs_K SA a0z = 6) ∧ (∃ mck2 msk2 : Nat, (0 + mck2 ≤ mc ∧ 0 + msk2 ≤ ms) ∧ (wp_X6_workerNumbered t0 m9 mck2 msk2 (fun (o7 : Option Nat) (S6 : qs_S) => ∃ q8 : Nat, o7 = some q8 ∧ ((x2z < (1 : Int32) → (wp_X6_lose_b18 t0 m9 mc ms post px (0 + mck2) (0 + msk2) S6)) ∧ (¬ x2z < (1 : Int32) → ((x2z ≤ (9 : Int32) → ((x3z = 0 → ((q8 ∈ qs_L S6 ∧ (qs_K S6 q8 = 2 ∨ qs_K S6 q8 = 5)) ∧ (∀ v14 : Int32, v14 = qs_I S6 3 q8 → ∀ v15 : Int32, v15 = v14 + x2z → ∀ v16 : Int32, v16 = qs_I (qs_wI S6 3 q8 v15) 3 q8 → post v16 (qs_wI S6 3 q8 v15)))) ∧ (¬ x3z = 0 → ((q8 ∈ qs_L S6 ∧ (qs_K S6 q8 = 2 ∨ qs_K S6 q8 = 5)) ∧ (∀ v19 : Int32, v19 = qs_I S6 4 q8 → ∀ v20 : Int32, v20 = v19 + x2z → ∀ v21 : Int32, v21 = qs_I (qs_wI S6 4 q8 v20) 4 q8 → post v21 (qs_wI S6 4 q8 v20)))))) ∧ (¬ x2z ≤ (9 : Int32) → (wp_X6_lose_b18 t0 m9 mc ms post px (0 + mck2) (0 + msk2) S6)))))) px SA a0z x1z))
set_option maxHeartbeats 4000000 in
set_option maxRecDepth 100000 in
theorem c_X6_lose (l : Launch) (hl9 : l.stackTraces = false) (g : qs_G) (sz : Nat) (SA : qs_S) (a0z : Nat) (x1z : Int32) (x2z : Int32) (x3z : Int32) {mc ms : Nat} {post : Int32 → qs_S → Prop} {px : String → qs_S → Prop} (h : wp_X6_lose g.2.2.2.2.2.2.1 g.2.2.2.2.2.2.2 mc ms post px SA a0z x1z x2z x3z) : vx_Met l yX6_lose wsX6_lose ({ frames := 9, cells := mc, slots := ms, locals := 153 } : Room) (qs_Pc g sz SA [.ref a0z, .int x1z, .int x2z, .int x3z]) (qs_Qi g (qs_F g SA sz) post) (qs_X g (qs_F g SA sz) px) mc ms (qs_F g SA sz) := by
  refine vx_ofW (cc := cX6_lose) (maxL := 5) (ret := (some .int)) (by decide +kernel) rfl ?_
  intro p e s m args below meth c s₁ B hml hnt hv
  obtain ⟨rfl, hsz, hG⟩ := qs_Gd.start hv
  subst hsz
  have hx := B.exec
  have hb := B.bytes
  have hr := B.returns
  have hts := atoms_spec (ws := wsX6_lose) B.pre
  have hown : s.vm.findClass RX6 = some m.cls := findClass_of_methodNamed B.named
  have hlk := B.notSynchronized
  have in0 : ∀ w ∈ u_ws RJx4a65c TJx4a65c 3, w ∈ wsX6_lose := fun w h => List.mem_cons_of_mem _ (List.mem_append_left _ (List.mem_append_left _ (List.mem_append_right _ (h))))
  have in2 : ∀ w ∈ u_ws RX1 TX1 8, w ∈ wsX6_lose := fun w h => List.mem_cons_of_mem _ (List.mem_append_left _ (List.mem_append_left _ (List.mem_append_left _ (List.mem_append_left _ (List.mem_append_left _ (List.mem_append_right _ (h)))))))
  have in5 : ∀ w ∈ u_ws RX4 TX4 8, w ∈ wsX6_lose := fun w h => List.mem_cons_of_mem _ (List.mem_append_left _ (List.mem_append_left _ (List.mem_append_left _ (List.mem_append_left _ (List.mem_append_right _ (h))))))
  have in6 : ∀ w ∈ u_ws RX6 TX6 8, w ∈ wsX6_lose := fun w h => List.mem_cons_of_mem _ (List.mem_append_left _ (List.mem_append_left _ (List.mem_append_left _ (List.mem_append_right _ (h)))))
  have hkc : 0 ≤ mc := Nat.zero_le _
  have hks : 0 ≤ ms := Nat.zero_le _
  have hmR : mc ≤ (headSpec wsX6_lose ({ frames := 9, cells := mc, slots := ms, locals := 153 } : Room)).room.cells := Nat.le_refl _
  have hsR : ms ≤ (headSpec wsX6_lose ({ frames := 9, cells := mc, slots := ms, locals := 153 } : Room)).room.slots := Nat.le_refl _
  have b18 : ∀ (S : qs_S) (H : Heap) (locs : List Loc) (k n : Nat) (ls : Array Slot), k ≤ mc → n ≤ ms → wp_X6_lose_b18 g.2.2.2.2.2.2.1 g.2.2.2.2.2.2.2 mc ms post px k n S → qs_Gd g (qs_F g SA s.heap.size) s S H locs → lv_has ls 5 [] → W p l e (headSpec wsX6_lose ({ frames := 9, cells := mc, slots := ms, locals := 153 } : Room)).room s m (([.ref a0z, .int x1z, .int x2z, .int x3z] : List Value)).toArray below meth c H locs k n (vx_MQ below (qs_Qi g (qs_F g SA s.heap.size) post) (qs_X g (qs_F g SA s.heap.size) px) (([.ref a0z, .int x1z, .int x2z, .int x3z] : List Value)).toArray s mc ms (qs_F g SA s.heap.size)) (F0 m 18 ls []) := by
    intro S H locs k n ls hkc hks h hG hl
    unfold wp_X6_lose_b18 at h
    obtain ⟨⟨hs1c, hs1s⟩, h⟩ := h
    exact qx_throw (ik := 55) (is := 205) (ic := 59) (cls := "java/lang/IllegalArgumentException") hx hb hl9 hts hown (by decide +kernel) (by decide +kernel) (List.mem_of_getElem? (i := 5) rfl) (hts (.classLink RX6 55 "java/lang/IllegalArgumentException") (List.mem_of_getElem? (i := 1) rfl)) (hts (.initialized "java/lang/IllegalArgumentException") (List.mem_of_getElem? (i := 2) rfl)) (fun w h => List.mem_cons_of_mem _ (List.mem_append_left _ (List.mem_append_right _ (h)))) qt_bd_IAE qt_gd_IAE hG (hl.1.trans hml.symm) dX6_lose_18 dX6_lose_21 dX6_lose_22 dX6_lose_24 dX6_lose_27 hnt (Nat.le_of_ble_eq_true rfl) (Nat.le_of_ble_eq_true rfl) hmR hsR hlk h hs1c hs1s
  have hl := lv_entry ([.ref a0z, .int x1z, .int x2z, .int x3z]) (n := 5) (Nat.le_of_ble_eq_true rfl)
  rw [lg_entry_eq]
  generalize (lg_sl ([.ref a0z, .int x1z, .int x2z, .int x3z]) ++ List.replicate (5 - (lg_sl ([.ref a0z, .int x1z, .int x2z, .int x3z])).length) Slot.unset).toArray = ls at hl ⊢
  have hl : lv_has ls 5 [(0, .ref a0z), (1, .int x1z), (2, .int x2z), (3, .int x3z)] := hl
  unfold wp_X6_lose at h
  refine lv_aload_n hx hb dX6_lose_0 rfl (lv_at hl 0 rfl) ?_
  refine lv_iload_n hx hb dX6_lose_1 rfl (lv_at hl 1 rfl) ?_
  obtain ⟨⟨hL4, fK5⟩, h⟩ := h
  obtain ⟨mck2, msk2, ⟨hs3c, hs3s⟩, h⟩ := h
  refine qx_q hG (vx_runV (As := [.int x1z]) (rest := []) ⟨hx, hb, hml, hown, hts⟩ (c_X6_workerNumbered l hl9 g _ SA a0z x1z h) (cwV 1 hts gX6_lose_X6_workerNumbered rfl rfl rfl (by decide +kernel) ⟨(Nat.le_of_ble_eq_true rfl), (Nat.le_of_ble_eq_true rfl)⟩) ⟨qs_Pc.blind _ _ _ _, hG.recv hL4 fK5 (by decide) rfl, hG.pre _⟩ rfl rfl hl.1 rfl (lv_room (Nat.le_of_ble_eq_true rfl)) dX6_lose_2 ⟨Nat.le_trans hs3c hmR, Nat.le_trans hs3s hsR⟩) (fun E S1 H locs ce q9 hp hG h1 h2 h3 => qx_out hnt hlk hG hp h1 h2 h3 hs3c hs3s) (fun o7 S6 H locs h hG => ?_)
  have hkc := hs3c
  have hks := hs3s
  obtain ⟨q8, rfl, h⟩ := h
  refine lv_astore (lv' := [(4, .ref q8), (0, .ref a0z), (1, .int x1z), (2, .int x2z), (3, .int x3z)]) hx hb dX6_lose_5 hl (by decide) rfl (fun ls hl => ?_)
  refine lv_iload_n hx hb dX6_lose_7 rfl (lv_at hl 3 rfl) ?_
  refine lv_iconst (v := (1 : Int32)) hx hb dX6_lose_8 (by decide +kernel) ?_
  refine lv_icmp_lt (tgt := 18) hx hb dX6_lose_9 (by decide) (fun c9 => ?_) (fun c9 => ?_)
  · have h := h.1 c9
    exact b18 S6 _ _ (0 + mck2) (0 + msk2) ls hkc hks h hG (lv_sub hl [] rfl)
  · have h := h.2 c9
    refine lv_iload_n hx hb dX6_lose_12 rfl (lv_at hl 3 rfl) ?_
    refine lv_bipush (v := (9 : Int32)) hx hb dX6_lose_13 (by decide +kernel) ?_
    refine lv_icmp_le (tgt := 28) hx hb dX6_lose_15 (by decide) (fun c10 => ?_) (fun c10 => ?_)
    · have h := h.1 c10
      refine lv_iload_n hx hb dX6_lose_28 rfl (lv_at hl 4 rfl) ?_
      refine lv_if_eq (tgt := 49) hx hb dX6_lose_29 (by decide) (fun c11 => ?_) (fun c11 => ?_)
      · have h := h.1 c11
        refine lv_aload hx hb dX6_lose_49 (lv_at hl 0 rfl) ?_
        refine lv_dup hx hb dX6_lose_51 rfl ?_
        obtain ⟨⟨hL12, fK13⟩, h⟩ := h
        refine qr_getW hx hb hts in2 in5 hown hG hL12 fK13 3 (by decide) rfl ⟨rfl, rfl⟩ (hts (.fieldLink RX6 210 "QuayMesh$Worker" "lossesOfMessages" "I") (List.mem_of_getElem? (i := 4) rfl)) (fun _ h9 => h9) (fun _ h9 => h9) (v := .int (qs_I S6 3 q8)) rfl dX6_lose_52 ?_
        refine lv_topi (fun v14 ev14 => ?_)
        have h := h v14 ev14
        refine lv_iload_n hx hb dX6_lose_55 rfl (lv_at hl 3 rfl) ?_
        refine lv_iadd hx hb dX6_lose_56 ?_
        refine lv_topi (fun v15 ev15 => ?_)
        have h := h v15 ev15
        refine qr_putIW hx hb hts in2 in5 hown hG hL12 fK13 3 (by decide) rfl ⟨rfl, rfl⟩ (hts (.fieldLink RX6 210 "QuayMesh$Worker" "lossesOfMessages" "I") (List.mem_of_getElem? (i := 4) rfl)) (fun _ h9 => h9) (fun _ h9 => h9) rfl (x := v15) (tyX1_ok 3 (by decide)) rfl rfl dX6_lose_57 (fun H locs hG => ?_)
        refine lv_aload hx hb dX6_lose_60 (lv_at hl 0 rfl) ?_
        refine qr_getW hx hb hts in2 in5 hown hG hL12 fK13 3 (by decide) rfl ⟨rfl, rfl⟩ (hts (.fieldLink RX6 210 "QuayMesh$Worker" "lossesOfMessages" "I") (List.mem_of_getElem? (i := 4) rfl)) (fun _ h9 => h9) (fun _ h9 => h9) (v := .int (qs_I (qs_wI S6 3 q8 v15) 3 q8)) rfl dX6_lose_62 ?_
        refine lv_topi (fun v16 ev16 => ?_)
        have h := h v16 ev16
        refine vx_ret ?_
        exact qe_i hx hb hr hlk hG h hkc hks dX6_lose_65
      · have h := h.2 c11
        refine lv_aload hx hb dX6_lose_32 (lv_at hl 0 rfl) ?_
        refine lv_dup hx hb dX6_lose_34 rfl ?_
        obtain ⟨⟨hL17, fK18⟩, h⟩ := h
        refine qr_getW hx hb hts in2 in5 hown hG hL17 fK18 4 (by decide) rfl ⟨rfl, rfl⟩ (hts (.fieldLink RX6 207 "QuayMesh$Worker" "lossesOfAcks" "I") (List.mem_of_getElem? (i := 3) rfl)) (fun _ h9 => h9) (fun _ h9 => h9) (v := .int (qs_I S6 4 q8)) rfl dX6_lose_35 ?_
        refine lv_topi (fun v19 ev19 => ?_)
        have h := h v19 ev19
        refine lv_iload_n hx hb dX6_lose_38 rfl (lv_at hl 3 rfl) ?_
        refine lv_iadd hx hb dX6_lose_39 ?_
        refine lv_topi (fun v20 ev20 => ?_)
        have h := h v20 ev20
        refine qr_putIW hx hb hts in2 in5 hown hG hL17 fK18 4 (by decide) rfl ⟨rfl, rfl⟩ (hts (.fieldLink RX6 207 "QuayMesh$Worker" "lossesOfAcks" "I") (List.mem_of_getElem? (i := 3) rfl)) (fun _ h9 => h9) (fun _ h9 => h9) rfl (x := v20) (tyX1_ok 4 (by decide)) rfl rfl dX6_lose_40 (fun H locs hG => ?_)
        refine lv_aload hx hb dX6_lose_43 (lv_at hl 0 rfl) ?_
        refine qr_getW hx hb hts in2 in5 hown hG hL17 fK18 4 (by decide) rfl ⟨rfl, rfl⟩ (hts (.fieldLink RX6 207 "QuayMesh$Worker" "lossesOfAcks" "I") (List.mem_of_getElem? (i := 3) rfl)) (fun _ h9 => h9) (fun _ h9 => h9) (v := .int (qs_I (qs_wI S6 4 q8 v20) 4 q8)) rfl dX6_lose_45 ?_
        refine lv_topi (fun v21 ev21 => ?_)
        have h := h v21 ev21
        refine vx_ret ?_
        exact qe_i hx hb hr hlk hG h hkc hks dX6_lose_48
    · have h := h.2 c10
      exact b18 S6 _ _ (0 + mck2) (0 + msk2) ls hkc hks h hG (lv_sub hl [] rfl)
def wp_X6_repeat_b23 (t0 m9 : Nat) (mc ms : Nat) (post : Int32 → qs_S → Prop) (px : String → qs_S → Prop) (k n : Nat) (S : qs_S) : Prop := (k + 1 ≤ mc ∧ n + 6 ≤ ms) ∧ px "java/lang/IllegalStateException" S
def wp_X6_repeat (t0 m9 : Nat) (mc ms : Nat) (post : Int32 → qs_S → Prop) (px : String → qs_S → Prop) (SA : qs_S) (a0z : Nat) (x1z : Int32) : Prop := (a0z ∈ qs_L SA ∧ qs_K SA a0z = 6) ∧ (∃ mck2 msk2 : Nat, (0 + mck2 ≤ mc ∧ 0 + msk2 ≤ ms) ∧ (wp_X6_workerNumbered t0 m9 mck2 msk2 (fun (o7 : Option Nat) (S6 : qs_S) => ∃ q8 : Nat, o7 = some q8 ∧ ((q8 ∈ qs_L S6 ∧ (qs_K S6 q8 = 2 ∨ qs_K S6 q8 = 5)) ∧ ((qs_R S6 6 q8 = none → (wp_X6_repeat_b23 t0 m9 mc ms post px (0 + mck2) (0 + msk2) S6)) ∧ (∀ q11 : Nat, qs_R S6 6 q8 = some q11 → ((a0z ∈ qs_L S6 ∧ qs_K S6 a0z = 6) ∧ (∃ mck12 msk12 : Nat, (0 + mck2 + mck12 ≤ mc ∧ 0 + msk2 + msk12 ≤ ms) ∧ (wp_X6_isInAQueue t0 m9 mck12 msk12 (fun (v17 : Int32) (S16 : qs_S) => (v17 = 0 → ((q8 ∈ qs_L S16 ∧ (qs_K S16 q8 = 2 ∨ qs_K S16 q8 = 5)) ∧ (∃ q21 : Nat, qs_R S16 1 q8 = some q21 ∧ ((q21 ∈ qs_L S16 ∧ qs_K S16 q21 = 0) ∧ (∃ mck22 msk22 : Nat, (0 + mck2 + mck12 + mck22 ≤ mc ∧ 0 + msk2 + msk12 + msk22 ≤ ms) ∧ (wp_Jx4a65c_add_9ea2d t0 m9 mck22 msk22 (fun (v27 : Int32) (S26 : qs_S) => (q11 ∈ qs_L S26 ∧ qs_K S26 q11 = 3) ∧ (∀ v30 : Int32, v30 = qs_I S26 0 q11 → post v30 S26)) S16 q21 q11)))))) ∧ (¬ v17 = 0 → (wp_X6_repeat_b23 t0 m9 mc ms post px (0 + mck2 + mck12) (0 + msk2 + msk12) S16))) px S6 a0z q11))))))) px SA a0z x1z))
set_option maxHeartbeats 4000000 in
set_option maxRecDepth 100000 in
theorem c_X6_repeat (l : Launch) (hl9 : l.stackTraces = false) (g : qs_G) (sz : Nat) (SA : qs_S) (a0z : Nat) (x1z : Int32) {mc ms : Nat} {post : Int32 → qs_S → Prop} {px : String → qs_S → Prop} (h : wp_X6_repeat g.2.2.2.2.2.2.1 g.2.2.2.2.2.2.2 mc ms post px SA a0z x1z) : vx_Met l yX6_repeat wsX6_repeat ({ frames := 10, cells := mc, slots := ms, locals := 191 } : Room) (qs_Pc g sz SA [.ref a0z, .int x1z]) (qs_Qi g (qs_F g SA sz) post) (qs_X g (qs_F g SA sz) px) mc ms (qs_F g SA sz) := by
  refine vx_ofW (cc := cX6_repeat) (maxL := 4) (ret := (some .int)) (by decide +kernel) rfl ?_
  intro p e s m args below meth c s₁ B hml hnt hv
  obtain ⟨rfl, hsz, hG⟩ := qs_Gd.start hv
  subst hsz
  have hx := B.exec
  have hb := B.bytes
  have hr := B.returns
  have hts := atoms_spec (ws := wsX6_repeat) B.pre
  have hown : s.vm.findClass RX6 = some m.cls := findClass_of_methodNamed B.named
  have hlk := B.notSynchronized
  have in0 : ∀ w ∈ u_ws RJx4a65c TJx4a65c 3, w ∈ wsX6_repeat := fun w h => List.mem_cons_of_mem _ (List.mem_append_left _ (List.mem_append_left _ (List.mem_append_right _ (h))))
  have in2 : ∀ w ∈ u_ws RX1 TX1 8, w ∈ wsX6_repeat := fun w h => List.mem_cons_of_mem _ (List.mem_append_left _ (List.mem_append_left _ (List.mem_append_left _ (List.mem_append_left _ (List.mem_append_left _ (List.mem_append_left _ (List.mem_append_right _ (h))))))))
  have in3 : ∀ w ∈ u_ws RX2 TX2 7, w ∈ wsX6_repeat := fun w h => List.mem_cons_of_mem _ (List.mem_append_left _ (List.mem_append_left _ (List.mem_append_left _ (List.mem_append_left _ (List.mem_append_right _ (h))))))
  have in5 : ∀ w ∈ u_ws RX4 TX4 8, w ∈ wsX6_repeat := fun w h => List.mem_cons_of_mem _ (List.mem_append_left _ (List.mem_append_left _ (List.mem_append_left _ (List.mem_append_left _ (List.mem_append_left _ (List.mem_append_right _ (h)))))))
  have in6 : ∀ w ∈ u_ws RX6 TX6 8, w ∈ wsX6_repeat := fun w h => List.mem_cons_of_mem _ (List.mem_append_left _ (List.mem_append_left _ (List.mem_append_left _ (List.mem_append_right _ (h)))))
  have hkc : 0 ≤ mc := Nat.zero_le _
  have hks : 0 ≤ ms := Nat.zero_le _
  have hmR : mc ≤ (headSpec wsX6_repeat ({ frames := 10, cells := mc, slots := ms, locals := 191 } : Room)).room.cells := Nat.le_refl _
  have hsR : ms ≤ (headSpec wsX6_repeat ({ frames := 10, cells := mc, slots := ms, locals := 191 } : Room)).room.slots := Nat.le_refl _
  have b23 : ∀ (S : qs_S) (H : Heap) (locs : List Loc) (k n : Nat) (ls : Array Slot), k ≤ mc → n ≤ ms → wp_X6_repeat_b23 g.2.2.2.2.2.2.1 g.2.2.2.2.2.2.2 mc ms post px k n S → qs_Gd g (qs_F g SA s.heap.size) s S H locs → lv_has ls 4 [] → W p l e (headSpec wsX6_repeat ({ frames := 10, cells := mc, slots := ms, locals := 191 } : Room)).room s m (([.ref a0z, .int x1z] : List Value)).toArray below meth c H locs k n (vx_MQ below (qs_Qi g (qs_F g SA s.heap.size) post) (qs_X g (qs_F g SA s.heap.size) px) (([.ref a0z, .int x1z] : List Value)).toArray s mc ms (qs_F g SA s.heap.size)) (F0 m 23 ls []) := by
    intro S H locs k n ls hkc hks h hG hl
    unfold wp_X6_repeat_b23 at h
    obtain ⟨⟨hs1c, hs1s⟩, h⟩ := h
    exact qx_throw (ik := 70) (is := 219) (ic := 74) (cls := "java/lang/IllegalStateException") hx hb hl9 hts hown (by decide +kernel) (by decide +kernel) (List.mem_of_getElem? (i := 8) rfl) (hts (.classLink RX6 70 "java/lang/IllegalStateException") (List.mem_of_getElem? (i := 1) rfl)) (hts (.initialized "java/lang/IllegalStateException") (List.mem_of_getElem? (i := 2) rfl)) (fun w h => List.mem_cons_of_mem _ (List.mem_append_left _ (List.mem_append_right _ (h)))) qt_bd_ISE qt_gd_ISE hG (hl.1.trans hml.symm) dX6_repeat_23 dX6_repeat_26 dX6_repeat_27 dX6_repeat_29 dX6_repeat_32 hnt (Nat.le_of_ble_eq_true rfl) (Nat.le_of_ble_eq_true rfl) hmR hsR hlk h hs1c hs1s
  have hl := lv_entry ([.ref a0z, .int x1z]) (n := 4) (Nat.le_of_ble_eq_true rfl)
  rw [lg_entry_eq]
  generalize (lg_sl ([.ref a0z, .int x1z]) ++ List.replicate (4 - (lg_sl ([.ref a0z, .int x1z])).length) Slot.unset).toArray = ls at hl ⊢
  have hl : lv_has ls 4 [(0, .ref a0z), (1, .int x1z)] := hl
  unfold wp_X6_repeat at h
  refine lv_aload_n hx hb dX6_repeat_0 rfl (lv_at hl 0 rfl) ?_
  refine lv_iload_n hx hb dX6_repeat_1 rfl (lv_at hl 1 rfl) ?_
  obtain ⟨⟨hL4, fK5⟩, h⟩ := h
  obtain ⟨mck2, msk2, ⟨hs3c, hs3s⟩, h⟩ := h
  refine qx_q hG (vx_runV (As := [.int x1z]) (rest := []) ⟨hx, hb, hml, hown, hts⟩ (c_X6_workerNumbered l hl9 g _ SA a0z x1z h) (cwV 1 hts gX6_repeat_X6_workerNumbered rfl rfl rfl (by decide +kernel) ⟨(Nat.le_of_ble_eq_true rfl), (Nat.le_of_ble_eq_true rfl)⟩) ⟨qs_Pc.blind _ _ _ _, hG.recv hL4 fK5 (by decide) rfl, hG.pre _⟩ rfl rfl hl.1 rfl (lv_room (Nat.le_of_ble_eq_true rfl)) dX6_repeat_2 ⟨Nat.le_trans hs3c hmR, Nat.le_trans hs3s hsR⟩) (fun E S1 H locs ce q9 hp hG h1 h2 h3 => qx_out hnt hlk hG hp h1 h2 h3 hs3c hs3s) (fun o7 S6 H locs h hG => ?_)
  have hkc := hs3c
  have hks := hs3s
  obtain ⟨q8, rfl, h⟩ := h
  refine lv_astore_n (lv' := [(2, .ref q8), (0, .ref a0z), (1, .int x1z)]) hx hb dX6_repeat_5 rfl hl (by decide) rfl (fun ls hl => ?_)
  refine lv_aload_n hx hb dX6_repeat_6 rfl (lv_at hl 0 rfl) ?_
  obtain ⟨⟨hL9, fK10⟩, h⟩ := h
  rcases eq11 : qs_R S6 6 q8 with _ | q11
  · have h := h.1 eq11
    refine qr_getW hx hb hts in2 in5 hown hG hL9 fK10 6 (by decide) rfl ⟨rfl, rfl⟩ (hts (.fieldLink RX6 213 "QuayMesh$Worker" "lastAcknowledged" "LQuayMesh$Message;") (List.mem_of_getElem? (i := 3) rfl)) (fun _ h9 => h9) (fun _ h9 => h9) (v := .null) (qs_rn eq11) dX6_repeat_7 ?_
    refine lv_astore_nN (lv' := [(3, .null), (2, .ref q8), (0, .ref a0z), (1, .int x1z)]) hx hb dX6_repeat_10 rfl hl (by decide) rfl (fun ls hl => ?_)
    refine lv_aload_nN hx hb dX6_repeat_11 rfl (lv_at hl 0 rfl) ?_
    refine lv_ifnullN (tgt := 23) hx hb dX6_repeat_12 (by decide) ?_
    exact b23 S6 _ _ (0 + mck2) (0 + msk2) ls hkc hks h hG (lv_sub hl [] rfl)
  · have h := h.2 q11 eq11
    refine qr_getW hx hb hts in2 in5 hown hG hL9 fK10 6 (by decide) rfl ⟨rfl, rfl⟩ (hts (.fieldLink RX6 213 "QuayMesh$Worker" "lastAcknowledged" "LQuayMesh$Message;") (List.mem_of_getElem? (i := 3) rfl)) (fun _ h9 => h9) (fun _ h9 => h9) (v := .ref q11) (qs_rf eq11) dX6_repeat_7 ?_
    refine lv_astore_n (lv' := [(3, .ref q11), (2, .ref q8), (0, .ref a0z), (1, .int x1z)]) hx hb dX6_repeat_10 rfl hl (by decide) rfl (fun ls hl => ?_)
    refine lv_aload_n hx hb dX6_repeat_11 rfl (lv_at hl 0 rfl) ?_
    refine lv_ifnull hx hb dX6_repeat_12 ?_
    refine lv_aload_n hx hb dX6_repeat_15 rfl (lv_at hl 2 rfl) ?_
    refine lv_aload_n hx hb dX6_repeat_16 rfl (lv_at hl 0 rfl) ?_
    obtain ⟨⟨hL14, fK15⟩, h⟩ := h
    obtain ⟨mck12, msk12, ⟨hs13c, hs13s⟩, h⟩ := h
    refine qx_i hG (vx_runV (As := [.ref q11]) (rest := []) ⟨hx, hb, hml, hown, hts⟩ (c_X6_isInAQueue l hl9 g _ S6 a0z q11 h) (cwV 1 hts gX6_repeat_X6_isInAQueue rfl rfl rfl (by decide +kernel) ⟨(Nat.le_of_ble_eq_true rfl), (Nat.le_of_ble_eq_true rfl)⟩) ⟨qs_Pc.blind _ _ _ _, hG.recv hL14 fK15 (by decide) rfl, hG.pre _⟩ rfl rfl hl.1 rfl (lv_room (Nat.le_of_ble_eq_true rfl)) dX6_repeat_17 ⟨Nat.le_trans hs13c hmR, Nat.le_trans hs13s hsR⟩) (fun E S1 H locs ce q9 hp hG h1 h2 h3 => qx_out hnt hlk hG hp h1 h2 h3 hs13c hs13s) (fun v17 S16 H locs h hG => ?_)
    have hkc := hs13c
    have hks := hs13s
    refine lv_if_eq (tgt := 33) hx hb dX6_repeat_20 (by decide) (fun c18 => ?_) (fun c18 => ?_)
    · have h := h.1 c18
      refine lv_aload_n hx hb dX6_repeat_33 rfl (lv_at hl 1 rfl) ?_
      obtain ⟨⟨hL19, fK20⟩, h⟩ := h
      obtain ⟨q21, eq21, h⟩ := h
      refine qr_getW hx hb hts in2 in5 hown hG hL19 fK20 1 (by decide) rfl ⟨rfl, rfl⟩ (hts (.fieldLink RX6 146 "QuayMesh$Worker" "waiting" "Ljava/util/ArrayList;") (List.mem_of_getElem? (i := 4) rfl)) (fun _ h9 => h9) (fun _ h9 => h9) (v := .ref q21) (qs_rf eq21) dX6_repeat_34 ?_
      refine lv_aload_n hx hb dX6_repeat_37 rfl (lv_at hl 0 rfl) ?_
      obtain ⟨⟨hL24, fK25⟩, h⟩ := h
      obtain ⟨mck22, msk22, ⟨hs23c, hs23s⟩, h⟩ := h
      refine qc_i hG (va_runV (As := [.ref q11]) (rest := []) ⟨hx, hb, hml, hown, hts⟩ (c_Jx4a65c_add_9ea2d l g _ S16 q21 q11 h) (cwV 1 hts gX6_repeat_Jx4a65c_add_9ea2d rfl rfl rfl (by decide +kernel) ⟨(Nat.le_of_ble_eq_true rfl), (Nat.le_of_ble_eq_true rfl)⟩) ⟨qs_Pc.blind _ _ _ _, hG.recv hL24 fK25 (by decide) rfl, hG.pre _⟩ rfl rfl hl.1 rfl (lv_room (Nat.le_of_ble_eq_true rfl)) dX6_repeat_38 ⟨Nat.le_trans hs23c hmR, Nat.le_trans hs23s hsR⟩) (fun v27 S26 H locs h hG => ?_)
      have hkc := hs23c
      have hks := hs23s
      refine lv_pop hx hb dX6_repeat_41 rfl ?_
      refine lv_aload_n hx hb dX6_repeat_42 rfl (lv_at hl 0 rfl) ?_
      obtain ⟨⟨hL28, fK29⟩, h⟩ := h
      refine qr_get (C := RX2) (T := TX2) (N := 7) (ci := 3) hx hb hts in3 hown hG hL28 fK29 (by decide) rfl 0 (by decide) rfl (hts (.fieldLink RX6 151 "QuayMesh$Message" "number" "I") (List.mem_of_getElem? (i := 5) rfl)) (fun _ h9 => h9) (v := .int (qs_I S26 0 q11)) rfl dX6_repeat_43 ?_
      refine lv_topi (fun v30 ev30 => ?_)
      have h := h v30 ev30
      refine vx_ret ?_
      exact qe_i hx hb hr hlk hG h hkc hks dX6_repeat_46
    · have h := h.2 c18
      exact b23 S16 _ _ (0 + mck2 + mck12) (0 + msk2 + msk12) ls hkc hks h hG (lv_sub hl [] rfl)
def wp_X6_silence (t0 m9 : Nat) (mc ms : Nat) (post : Int32 → qs_S → Prop) (px : String → qs_S → Prop) (SA : qs_S) (a0z : Nat) (x1z : Int32) (x2z : Int32) : Prop := (a0z ∈ qs_L SA ∧ qs_K SA a0z = 6) ∧ (∃ mck1 msk1 : Nat, (0 + mck1 ≤ mc ∧ 0 + msk1 ≤ ms) ∧ (wp_X6_craneNumbered t0 m9 mck1 msk1 (fun (o6 : Option Nat) (S5 : qs_S) => ∃ q7 : Nat, o6 = some q7 ∧ ((q7 ∈ qs_L S5 ∧ qs_K S5 q7 = 2) ∧ (∀ v10 : Int32, v10 = qs_I S5 5 q7 → (x2z = 0 ∨ x2z = 1) ∧ ((v10 = 0 ∨ v10 = 1) ∧ post v10 (qs_wI S5 5 q7 x2z))))) px SA a0z x1z))
set_option maxHeartbeats 4000000 in
set_option maxRecDepth 100000 in
theorem c_X6_silence (l : Launch) (hl9 : l.stackTraces = false) (g : qs_G) (sz : Nat) (SA : qs_S) (a0z : Nat) (x1z : Int32) (x2z : Int32) {mc ms : Nat} {post : Int32 → qs_S → Prop} {px : String → qs_S → Prop} (h : wp_X6_silence g.2.2.2.2.2.2.1 g.2.2.2.2.2.2.2 mc ms post px SA a0z x1z x2z) : vx_Met l yX6_silence wsX6_silence ({ frames := 8, cells := mc, slots := ms, locals := 132 } : Room) (qs_Pc g sz SA [.ref a0z, .int x1z, .int x2z]) (qs_Qi g (qs_F g SA sz) post) (qs_X g (qs_F g SA sz) px) mc ms (qs_F g SA sz) := by
  refine vx_ofW (cc := cX6_silence) (maxL := 5) (ret := (some .boolean)) (by decide +kernel) rfl ?_
  intro p e s m args below meth c s₁ B hml hnt hv
  obtain ⟨rfl, hsz, hG⟩ := qs_Gd.start hv
  subst hsz
  have hx := B.exec
  have hb := B.bytes
  have hr := B.returns
  have hts := atoms_spec (ws := wsX6_silence) B.pre
  have hown : s.vm.findClass RX6 = some m.cls := findClass_of_methodNamed B.named
  have hlk := B.notSynchronized
  have in0 : ∀ w ∈ u_ws RJx4a65c TJx4a65c 3, w ∈ wsX6_silence := fun w h => List.mem_cons_of_mem _ (List.mem_append_left _ (List.mem_append_right _ (h)))
  have in2 : ∀ w ∈ u_ws RX1 TX1 8, w ∈ wsX6_silence := fun w h => List.mem_cons_of_mem _ (List.mem_append_left _ (List.mem_append_left _ (List.mem_append_left _ (List.mem_append_left _ (List.mem_append_right _ (h))))))
  have in5 : ∀ w ∈ u_ws RX4 TX4 8, w ∈ wsX6_silence := fun w h => List.mem_cons_of_mem _ (List.mem_append_left _ (List.mem_append_left _ (List.mem_append_left _ (List.mem_append_right _ (h)))))
  have in6 : ∀ w ∈ u_ws RX6 TX6 8, w ∈ wsX6_silence := fun w h => List.mem_cons_of_mem _ (List.mem_append_left _ (List.mem_append_left _ (List.mem_append_right _ (h))))
  have hkc : 0 ≤ mc := Nat.zero_le _
  have hks : 0 ≤ ms := Nat.zero_le _
  have hmR : mc ≤ (headSpec wsX6_silence ({ frames := 8, cells := mc, slots := ms, locals := 132 } : Room)).room.cells := Nat.le_refl _
  have hsR : ms ≤ (headSpec wsX6_silence ({ frames := 8, cells := mc, slots := ms, locals := 132 } : Room)).room.slots := Nat.le_refl _
  have hl := lv_entry ([.ref a0z, .int x1z, .int x2z]) (n := 5) (Nat.le_of_ble_eq_true rfl)
  rw [lg_entry_eq]
  generalize (lg_sl ([.ref a0z, .int x1z, .int x2z]) ++ List.replicate (5 - (lg_sl ([.ref a0z, .int x1z, .int x2z])).length) Slot.unset).toArray = ls at hl ⊢
  have hl : lv_has ls 5 [(0, .ref a0z), (1, .int x1z), (2, .int x2z)] := hl
  unfold wp_X6_silence at h
  refine lv_aload_n hx hb dX6_silence_0 rfl (lv_at hl 0 rfl) ?_
  refine lv_iload_n hx hb dX6_silence_1 rfl (lv_at hl 1 rfl) ?_
  obtain ⟨⟨hL3, fK4⟩, h⟩ := h
  obtain ⟨mck1, msk1, ⟨hs2c, hs2s⟩, h⟩ := h
  refine qx_q hG (vx_runV (As := [.int x1z]) (rest := []) ⟨hx, hb, hml, hown, hts⟩ (c_X6_craneNumbered l hl9 g _ SA a0z x1z h) (cwV 1 hts gX6_silence_X6_craneNumbered rfl rfl rfl (by decide +kernel) ⟨(Nat.le_of_ble_eq_true rfl), (Nat.le_of_ble_eq_true rfl)⟩) ⟨qs_Pc.blind _ _ _ _, hG.recv hL3 fK4 (by decide) rfl, hG.pre _⟩ rfl rfl hl.1 rfl (lv_room (Nat.le_of_ble_eq_true rfl)) dX6_silence_2 ⟨Nat.le_trans hs2c hmR, Nat.le_trans hs2s hsR⟩) (fun E S1 H locs ce q9 hp hG h1 h2 h3 => qx_out hnt hlk hG hp h1 h2 h3 hs2c hs2s) (fun o6 S5 H locs h hG => ?_)
  have hkc := hs2c
  have hks := hs2s
  obtain ⟨q7, rfl, h⟩ := h
  refine lv_astore_n (lv' := [(3, .ref q7), (0, .ref a0z), (1, .int x1z), (2, .int x2z)]) hx hb dX6_silence_5 rfl hl (by decide) rfl (fun ls hl => ?_)
  refine lv_aload_n hx hb dX6_silence_6 rfl (lv_at hl 0 rfl) ?_
  obtain ⟨⟨hL8, fK9⟩, h⟩ := h
  refine qr_get (C := RX1) (T := TX1) (N := 8) (ci := 2) hx hb hts in2 hown hG hL8 fK9 (by decide) rfl 5 (by decide) rfl (hts (.fieldLink RX6 225 "QuayMesh$Crane" "isSilent" "Z") (List.mem_of_getElem? (i := 1) rfl)) (u_same (hts (.sameField "QuayMesh$Crane" "QuayMesh$Worker" "isSilent" "Z") (List.mem_of_getElem? (i := 2) rfl))) (v := .int (qs_I S5 5 q7)) rfl dX6_silence_7 ?_
  refine lv_topi (fun v10 ev10 => ?_)
  have h := h v10 ev10
  refine lv_istore (lv' := [(4, .int v10), (3, .ref q7), (0, .ref a0z), (1, .int x1z), (2, .int x2z)]) hx hb dX6_silence_10 hl (by decide) rfl (fun ls hl => ?_)
  refine lv_aload_n hx hb dX6_silence_12 rfl (lv_at hl 1 rfl) ?_
  refine lv_iload_n hx hb dX6_silence_13 rfl (lv_at hl 4 rfl) ?_
  obtain ⟨z11, h⟩ := h
  refine qr_putI (C := RX1) (T := TX1) (N := 8) (ci := 2) hx hb hts in2 tyX1 tyX1_ok nmX1 hown hG hL8 fK9 (by decide) rfl 5 (by decide) rfl (hts (.fieldLink RX6 225 "QuayMesh$Crane" "isSilent" "Z") (List.mem_of_getElem? (i := 1) rfl)) (u_same (hts (.sameField "QuayMesh$Crane" "QuayMesh$Worker" "isSilent" "Z") (List.mem_of_getElem? (i := 2) rfl))) rfl (x := x2z) (tyX1_ok 5 (by decide)) (qs_nar01 z11) (qs_fit01 z11) dX6_silence_14 (fun H locs hG => ?_)
  refine lv_iload hx hb dX6_silence_17 (lv_at hl 0 rfl) ?_
  refine vx_ret ?_
  obtain ⟨z12, h⟩ := h
  exact qe_z hx hb hr hlk z12 hG h hkc hks dX6_silence_19
def wp_X6_giveAway_b26 (t0 m9 : Nat) (mc ms : Nat) (post : Int32 → qs_S → Prop) (px : String → qs_S → Prop) (k n : Nat) (S : qs_S) : Prop := (k + 1 ≤ mc ∧ n + 6 ≤ ms) ∧ px "java/lang/IllegalStateException" S
def wp_X6_giveAway_c48 (t0 m9 : Nat) (mc ms : Nat) (post : Int32 → qs_S → Prop) (px : String → qs_S → Prop) (K48 : Nat → Nat → qs_S → Nat → Nat → Int32 → Int32 → Prop) (k n : Nat) (S : qs_S) (a3 : Nat) (a4 : Nat) (x5 : Int32) (x6 : Int32) : Prop := (x5 ≤ x6 → ((a3 ∈ qs_L S ∧ qs_K S a3 = 2) ∧ (∃ q5 : Nat, qs_R S 1 a3 = some q5 ∧ ((q5 ∈ qs_L S ∧ qs_K S q5 = 0) ∧ (wp_Jx4a65c_clear_da8c8 t0 m9 (fun (S10 : qs_S) => post x5 S10) S q5))))) ∧ (¬ x5 ≤ x6 → ((a4 ∈ qs_L S ∧ qs_K S a4 = 2) ∧ (∃ q13 : Nat, qs_R S 1 a4 = some q13 ∧ ((a3 ∈ qs_L S ∧ qs_K S a3 = 2) ∧ (∃ q16 : Nat, qs_R S 1 a3 = some q16 ∧ ((q16 ∈ qs_L S ∧ qs_K S q16 = 0) ∧ (wp_Jx4a65c_get_915e3 t0 m9 (fun (o22 : Option Nat) (S21 : qs_S) => ∃ q23 : Nat, o22 = some q23 ∧ ((q23 ∈ qs_L S21 ∧ qs_K S21 q23 = 3) ∧ ((q13 ∈ qs_L S21 ∧ qs_K S21 q13 = 0) ∧ (∃ mck26 msk26 : Nat, (k + mck26 ≤ mc ∧ n + msk26 ≤ ms) ∧ (wp_Jx4a65c_add_9ea2d t0 m9 mck26 msk26 (fun (v31 : Int32) (S30 : qs_S) => ∀ v32 : Int32, v32 = x6 + 1 → K48 (k + mck26) (n + msk26) S30 a3 a4 x5 v32) S21 q13 q23))))) S q16 x6)))))))
def wp_X6_giveAway_b48 (t0 m9 : Nat) (mc ms : Nat) (post : Int32 → qs_S → Prop) (px : String → qs_S → Prop) : Nat → Nat → Nat → qs_S → Nat → Nat → Int32 → Int32 → Prop
  | 0 => fun _ _ _ _ _ _ _ => False
  | n9 + 1 => wp_X6_giveAway_c48 t0 m9 mc ms post px (wp_X6_giveAway_b48 t0 m9 mc ms post px n9)
def wp_X6_giveAway (t0 m9 : Nat) (mc ms : Nat) (post : Int32 → qs_S → Prop) (px : String → qs_S → Prop) (SA : qs_S) (a0z : Nat) (x1z : Int32) (x2z : Int32) : Prop := (a0z ∈ qs_L SA ∧ qs_K SA a0z = 6) ∧ (∃ mck33 msk33 : Nat, (0 + mck33 ≤ mc ∧ 0 + msk33 ≤ ms) ∧ (wp_X6_craneNumbered t0 m9 mck33 msk33 (fun (o38 : Option Nat) (S37 : qs_S) => ∃ q39 : Nat, o38 = some q39 ∧ ((a0z ∈ qs_L S37 ∧ qs_K S37 a0z = 6) ∧ (∃ mck40 msk40 : Nat, (0 + mck33 + mck40 ≤ mc ∧ 0 + msk33 + msk40 ≤ ms) ∧ (wp_X6_craneNumbered t0 m9 mck40 msk40 (fun (o45 : Option Nat) (S44 : qs_S) => ∃ q46 : Nat, o45 = some q46 ∧ ((q39 ∈ qs_L S44 ∧ qs_K S44 q39 = 2) ∧ (∀ v49 : Int32, v49 = qs_I S44 5 q39 → (v49 = 0 → (wp_X6_giveAway_b26 t0 m9 mc ms post px (0 + mck33 + mck40) (0 + msk33 + msk40) S44)) ∧ (¬ v49 = 0 → ((¬ q39 = q46 → (∃ q52 : Nat, qs_R S44 1 q39 = some q52 ∧ ((q52 ∈ qs_L S44 ∧ qs_K S44 q52 = 0) ∧ (wp_Jx4a65c_size_8abf5 t0 m9 (fun (v58 : Int32) (S57 : qs_S) => ∃ n59 : Nat, wp_X6_giveAway_b48 t0 m9 mc ms post px n59 (0 + mck33 + mck40) (0 + msk33 + msk40) S57 q39 q46 v58 (0 : Int32)) S44 q52)))) ∧ (q39 = q46 → (wp_X6_giveAway_b26 t0 m9 mc ms post px (0 + mck33 + mck40) (0 + msk33 + msk40) S44))))))) px S37 a0z x2z)))) px SA a0z x1z))
set_option maxHeartbeats 4000000 in
set_option maxRecDepth 100000 in
theorem c_X6_giveAway (l : Launch) (hl9 : l.stackTraces = false) (g : qs_G) (sz : Nat) (SA : qs_S) (a0z : Nat) (x1z : Int32) (x2z : Int32) {mc ms : Nat} {post : Int32 → qs_S → Prop} {px : String → qs_S → Prop} (h : wp_X6_giveAway g.2.2.2.2.2.2.1 g.2.2.2.2.2.2.2 mc ms post px SA a0z x1z x2z) : vx_Met l yX6_giveAway wsX6_giveAway ({ frames := 8, cells := mc, slots := ms, locals := 191 } : Room) (qs_Pc g sz SA [.ref a0z, .int x1z, .int x2z]) (qs_Qi g (qs_F g SA sz) post) (qs_X g (qs_F g SA sz) px) mc ms (qs_F g SA sz) := by
  refine vx_ofW (cc := cX6_giveAway) (maxL := 7) (ret := (some .int)) (by decide +kernel) rfl ?_
  intro p e s m args below meth c s₁ B hml hnt hv
  obtain ⟨rfl, hsz, hG⟩ := qs_Gd.start hv
  subst hsz
  have hx := B.exec
  have hb := B.bytes
  have hr := B.returns
  have hts := atoms_spec (ws := wsX6_giveAway) B.pre
  have hown : s.vm.findClass RX6 = some m.cls := findClass_of_methodNamed B.named
  have hlk := B.notSynchronized
  have in0 : ∀ w ∈ u_ws RJx4a65c TJx4a65c 3, w ∈ wsX6_giveAway := fun w h => List.mem_cons_of_mem _ (List.mem_append_left _ (List.mem_append_left _ (List.mem_append_right _ (h))))
  have in2 : ∀ w ∈ u_ws RX1 TX1 8, w ∈ wsX6_giveAway := fun w h => List.mem_cons_of_mem _ (List.mem_append_left _ (List.mem_append_left _ (List.mem_append_left _ (List.mem_append_left _ (List.mem_append_left _ (List.mem_append_right _ (h)))))))
  have in5 : ∀ w ∈ u_ws RX4 TX4 8, w ∈ wsX6_giveAway := fun w h => List.mem_cons_of_mem _ (List.mem_append_left _ (List.mem_append_left _ (List.mem_append_left _ (List.mem_append_left _ (List.mem_append_right _ (h))))))
  have in6 : ∀ w ∈ u_ws RX6 TX6 8, w ∈ wsX6_giveAway := fun w h => List.mem_cons_of_mem _ (List.mem_append_left _ (List.mem_append_left _ (List.mem_append_left _ (List.mem_append_right _ (h)))))
  have hkc : 0 ≤ mc := Nat.zero_le _
  have hks : 0 ≤ ms := Nat.zero_le _
  have hmR : mc ≤ (headSpec wsX6_giveAway ({ frames := 8, cells := mc, slots := ms, locals := 191 } : Room)).room.cells := Nat.le_refl _
  have hsR : ms ≤ (headSpec wsX6_giveAway ({ frames := 8, cells := mc, slots := ms, locals := 191 } : Room)).room.slots := Nat.le_refl _
  have b26 : ∀ (S : qs_S) (H : Heap) (locs : List Loc) (k n : Nat) (ls : Array Slot), k ≤ mc → n ≤ ms → wp_X6_giveAway_b26 g.2.2.2.2.2.2.1 g.2.2.2.2.2.2.2 mc ms post px k n S → qs_Gd g (qs_F g SA s.heap.size) s S H locs → lv_has ls 7 [] → W p l e (headSpec wsX6_giveAway ({ frames := 8, cells := mc, slots := ms, locals := 191 } : Room)).room s m (([.ref a0z, .int x1z, .int x2z] : List Value)).toArray below meth c H locs k n (vx_MQ below (qs_Qi g (qs_F g SA s.heap.size) post) (qs_X g (qs_F g SA s.heap.size) px) (([.ref a0z, .int x1z, .int x2z] : List Value)).toArray s mc ms (qs_F g SA s.heap.size)) (F0 m 26 ls []) := by
    intro S H locs k n ls hkc hks h hG hl
    unfold wp_X6_giveAway_b26 at h
    obtain ⟨⟨hs1c, hs1s⟩, h⟩ := h
    exact qx_throw (ik := 70) (is := 228) (ic := 74) (cls := "java/lang/IllegalStateException") hx hb hl9 hts hown (by decide +kernel) (by decide +kernel) (List.mem_of_getElem? (i := 10) rfl) (hts (.classLink RX6 70 "java/lang/IllegalStateException") (List.mem_of_getElem? (i := 1) rfl)) (hts (.initialized "java/lang/IllegalStateException") (List.mem_of_getElem? (i := 2) rfl)) (fun w h => List.mem_cons_of_mem _ (List.mem_append_left _ (List.mem_append_right _ (h)))) qt_bd_ISE qt_gd_ISE hG (hl.1.trans hml.symm) dX6_giveAway_26 dX6_giveAway_29 dX6_giveAway_30 dX6_giveAway_32 dX6_giveAway_35 hnt (Nat.le_of_ble_eq_true rfl) (Nat.le_of_ble_eq_true rfl) hmR hsR hlk h hs1c hs1s
  have c48 : ∀ (K48 : Nat → Nat → qs_S → Nat → Nat → Int32 → Int32 → Prop), (∀ (S : qs_S) (a3 : Nat) (a4 : Nat) (x5 : Int32) (x6 : Int32) (H : Heap) (locs : List Loc) (k n : Nat) (ls : Array Slot), k ≤ mc → n ≤ ms → K48 k n S a3 a4 x5 x6 → qs_Gd g (qs_F g SA s.heap.size) s S H locs → lv_has ls 7 [(3, .ref a3), (4, .ref a4), (5, .int x5), (6, .int x6)] → W p l e (headSpec wsX6_giveAway ({ frames := 8, cells := mc, slots := ms, locals := 191 } : Room)).room s m (([.ref a0z, .int x1z, .int x2z] : List Value)).toArray below meth c H locs k n (vx_MQ below (qs_Qi g (qs_F g SA s.heap.size) post) (qs_X g (qs_F g SA s.heap.size) px) (([.ref a0z, .int x1z, .int x2z] : List Value)).toArray s mc ms (qs_F g SA s.heap.size)) (F0 m 48 ls [])) → ∀ (S : qs_S) (a3 : Nat) (a4 : Nat) (x5 : Int32) (x6 : Int32) (H : Heap) (locs : List Loc) (k n : Nat) (ls : Array Slot), k ≤ mc → n ≤ ms → wp_X6_giveAway_c48 g.2.2.2.2.2.2.1 g.2.2.2.2.2.2.2 mc ms post px K48 k n S a3 a4 x5 x6 → qs_Gd g (qs_F g SA s.heap.size) s S H locs → lv_has ls 7 [(3, .ref a3), (4, .ref a4), (5, .int x5), (6, .int x6)] → W p l e (headSpec wsX6_giveAway ({ frames := 8, cells := mc, slots := ms, locals := 191 } : Room)).room s m (([.ref a0z, .int x1z, .int x2z] : List Value)).toArray below meth c H locs k n (vx_MQ below (qs_Qi g (qs_F g SA s.heap.size) post) (qs_X g (qs_F g SA s.heap.size) px) (([.ref a0z, .int x1z, .int x2z] : List Value)).toArray s mc ms (qs_F g SA s.heap.size)) (F0 m 48 ls []) := by
    intro K48 hK48 S a3 a4 x5 x6 H locs k n ls hkc hks h hG hl
    unfold wp_X6_giveAway_c48 at h
    refine lv_iload hx hb dX6_giveAway_48 (lv_at hl 3 rfl) ?_
    refine lv_iload hx hb dX6_giveAway_50 (lv_at hl 2 rfl) ?_
    refine lv_icmp_ge (tgt := 82) hx hb dX6_giveAway_52 (by decide) (fun c2 => ?_) (fun c2 => ?_)
    · have h := h.1 c2
      refine lv_aload_n hx hb dX6_giveAway_82 rfl (lv_at hl 0 rfl) ?_
      obtain ⟨⟨hL3, fK4⟩, h⟩ := h
      obtain ⟨q5, eq5, h⟩ := h
      refine qr_get (C := RX1) (T := TX1) (N := 8) (ci := 2) hx hb hts in2 hown hG hL3 fK4 (by decide) rfl 1 (by decide) rfl (hts (.fieldLink RX6 230 "QuayMesh$Crane" "waiting" "Ljava/util/ArrayList;") (List.mem_of_getElem? (i := 5) rfl)) (u_same (hts (.sameField "QuayMesh$Crane" "QuayMesh$Worker" "waiting" "Ljava/util/ArrayList;") (List.mem_of_getElem? (i := 6) rfl))) (v := .ref q5) (qs_rf eq5) dX6_giveAway_83 ?_
      obtain ⟨⟨hL8, fK9⟩, h⟩ := h
      refine qc_v hG (va_runV (As := []) (rest := []) ⟨hx, hb, hml, hown, hts⟩ (c_Jx4a65c_clear_da8c8 l g _ S q5 h) (cwV 0 hts gX6_giveAway_Jx4a65c_clear_da8c8 rfl rfl rfl (by decide +kernel) ⟨(Nat.le_of_ble_eq_true rfl), (Nat.le_of_ble_eq_true rfl)⟩) ⟨qs_Pc.blind _ _ _ _, hG.recv hL8 fK9 (by decide) rfl, hG.pre _⟩ rfl rfl hl.1 rfl (lv_room (Nat.le_of_ble_eq_true rfl)) dX6_giveAway_86 ⟨Nat.le_trans hkc hmR, Nat.le_trans hks hsR⟩) (fun S10 H locs h hG => ?_)
      refine lv_iload hx hb dX6_giveAway_89 (lv_at hl 2 rfl) ?_
      refine vx_ret ?_
      exact qe_i hx hb hr hlk hG h hkc hks dX6_giveAway_91
    · have h := h.2 c2
      refine lv_aload hx hb dX6_giveAway_55 (lv_at hl 1 rfl) ?_
      obtain ⟨⟨hL11, fK12⟩, h⟩ := h
      obtain ⟨q13, eq13, h⟩ := h
      refine qr_get (C := RX1) (T := TX1) (N := 8) (ci := 2) hx hb hts in2 hown hG hL11 fK12 (by decide) rfl 1 (by decide) rfl (hts (.fieldLink RX6 230 "QuayMesh$Crane" "waiting" "Ljava/util/ArrayList;") (List.mem_of_getElem? (i := 5) rfl)) (u_same (hts (.sameField "QuayMesh$Crane" "QuayMesh$Worker" "waiting" "Ljava/util/ArrayList;") (List.mem_of_getElem? (i := 6) rfl))) (v := .ref q13) (qs_rf eq13) dX6_giveAway_57 ?_
      refine lv_aload_n hx hb dX6_giveAway_60 rfl (lv_at hl 0 rfl) ?_
      obtain ⟨⟨hL14, fK15⟩, h⟩ := h
      obtain ⟨q16, eq16, h⟩ := h
      refine qr_get (C := RX1) (T := TX1) (N := 8) (ci := 2) hx hb hts in2 hown hG hL14 fK15 (by decide) rfl 1 (by decide) rfl (hts (.fieldLink RX6 230 "QuayMesh$Crane" "waiting" "Ljava/util/ArrayList;") (List.mem_of_getElem? (i := 5) rfl)) (u_same (hts (.sameField "QuayMesh$Crane" "QuayMesh$Worker" "waiting" "Ljava/util/ArrayList;") (List.mem_of_getElem? (i := 6) rfl))) (v := .ref q16) (qs_rf eq16) dX6_giveAway_61 ?_
      refine lv_iload hx hb dX6_giveAway_64 (lv_at hl 3 rfl) ?_
      obtain ⟨⟨hL19, fK20⟩, h⟩ := h
      refine qc_q hG (va_runV (As := [.int x6]) (rest := [.ref q13]) ⟨hx, hb, hml, hown, hts⟩ (c_Jx4a65c_get_915e3 l g _ S q16 x6 h) (cwV 1 hts gX6_giveAway_Jx4a65c_get_915e3 rfl rfl rfl (by decide +kernel) ⟨(Nat.le_of_ble_eq_true rfl), (Nat.le_of_ble_eq_true rfl)⟩) ⟨qs_Pc.blind _ _ _ _, hG.recv hL19 fK20 (by decide) rfl, hG.pre _⟩ rfl rfl hl.1 rfl (lv_room (Nat.le_of_ble_eq_true rfl)) dX6_giveAway_66 ⟨Nat.le_trans hkc hmR, Nat.le_trans hks hsR⟩) (fun o22 S21 H locs h hG => ?_)
      obtain ⟨q23, rfl, h⟩ := h
      obtain ⟨⟨hL24, fK25⟩, h⟩ := h
      refine qr_cast (N := 7) hx hb hG hL24 fK25 (by decide) rfl hown (hts (.classLink RX6 141 "QuayMesh$Message") (List.mem_of_getElem? (i := 7) rfl)) dX6_giveAway_69 ?_
      obtain ⟨⟨hL28, fK29⟩, h⟩ := h
      obtain ⟨mck26, msk26, ⟨hs27c, hs27s⟩, h⟩ := h
      refine qc_i hG (va_runV (As := [.ref q23]) (rest := []) ⟨hx, hb, hml, hown, hts⟩ (c_Jx4a65c_add_9ea2d l g _ S21 q13 q23 h) (cwV 1 hts gX6_giveAway_Jx4a65c_add_9ea2d rfl rfl rfl (by decide +kernel) ⟨(Nat.le_of_ble_eq_true rfl), (Nat.le_of_ble_eq_true rfl)⟩) ⟨qs_Pc.blind _ _ _ _, hG.recv hL28 fK29 (by decide) rfl, hG.pre _⟩ rfl rfl hl.1 rfl (lv_room (Nat.le_of_ble_eq_true rfl)) dX6_giveAway_72 ⟨Nat.le_trans hs27c hmR, Nat.le_trans hs27s hsR⟩) (fun v31 S30 H locs h hG => ?_)
      have hkc := hs27c
      have hks := hs27s
      refine lv_pop hx hb dX6_giveAway_75 rfl ?_
      obtain ⟨v32, ev32⟩ : ∃ y : Int32, y = x6 + 1 := ⟨_, rfl⟩
      have h := h v32 ev32
      refine lv_iinc (v := v32) (lv' := [(6, .int v32), (3, .ref a3), (4, .ref a4), (5, .int x5)]) hx hb dX6_giveAway_76 hl (k := 3) rfl (by rw [ev32]; rfl) (by decide) rfl (fun ls hl => ?_)
      refine lv_goto (tgt := 48) hx hb dX6_giveAway_79 (by decide) ?_
      exact hK48 S30 a3 a4 x5 v32 _ _ (k + mck26) (n + msk26) ls hkc hks h hG (lv_sub hl [1, 2, 3, 0] rfl)
  have b48 : ∀ n9 : Nat, ∀ (S : qs_S) (a3 : Nat) (a4 : Nat) (x5 : Int32) (x6 : Int32) (H : Heap) (locs : List Loc) (k n : Nat) (ls : Array Slot), k ≤ mc → n ≤ ms → wp_X6_giveAway_b48 g.2.2.2.2.2.2.1 g.2.2.2.2.2.2.2 mc ms post px n9 k n S a3 a4 x5 x6 → qs_Gd g (qs_F g SA s.heap.size) s S H locs → lv_has ls 7 [(3, .ref a3), (4, .ref a4), (5, .int x5), (6, .int x6)] → W p l e (headSpec wsX6_giveAway ({ frames := 8, cells := mc, slots := ms, locals := 191 } : Room)).room s m (([.ref a0z, .int x1z, .int x2z] : List Value)).toArray below meth c H locs k n (vx_MQ below (qs_Qi g (qs_F g SA s.heap.size) post) (qs_X g (qs_F g SA s.heap.size) px) (([.ref a0z, .int x1z, .int x2z] : List Value)).toArray s mc ms (qs_F g SA s.heap.size)) (F0 m 48 ls []) := by
    intro n9
    induction n9 with
    | zero =>
      intro S a3 a4 x5 x6 H locs k n ls hkc hks h hG hl
      exact False.elim h
    | succ n9 ih => exact c48 _ ih
  have hl := lv_entry ([.ref a0z, .int x1z, .int x2z]) (n := 7) (Nat.le_of_ble_eq_true rfl)
  rw [lg_entry_eq]
  generalize (lg_sl ([.ref a0z, .int x1z, .int x2z]) ++ List.replicate (7 - (lg_sl ([.ref a0z, .int x1z, .int x2z])).length) Slot.unset).toArray = ls at hl ⊢
  have hl : lv_has ls 7 [(0, .ref a0z), (1, .int x1z), (2, .int x2z)] := hl
  unfold wp_X6_giveAway at h
  refine lv_aload_n hx hb dX6_giveAway_0 rfl (lv_at hl 0 rfl) ?_
  refine lv_iload_n hx hb dX6_giveAway_1 rfl (lv_at hl 1 rfl) ?_
  obtain ⟨⟨hL35, fK36⟩, h⟩ := h
  obtain ⟨mck33, msk33, ⟨hs34c, hs34s⟩, h⟩ := h
  refine qx_q hG (vx_runV (As := [.int x1z]) (rest := []) ⟨hx, hb, hml, hown, hts⟩ (c_X6_craneNumbered l hl9 g _ SA a0z x1z h) (cwV 1 hts gX6_giveAway_X6_craneNumbered rfl rfl rfl (by decide +kernel) ⟨(Nat.le_of_ble_eq_true rfl), (Nat.le_of_ble_eq_true rfl)⟩) ⟨qs_Pc.blind _ _ _ _, hG.recv hL35 fK36 (by decide) rfl, hG.pre _⟩ rfl rfl hl.1 rfl (lv_room (Nat.le_of_ble_eq_true rfl)) dX6_giveAway_2 ⟨Nat.le_trans hs34c hmR, Nat.le_trans hs34s hsR⟩) (fun E S1 H locs ce q9 hp hG h1 h2 h3 => qx_out hnt hlk hG hp h1 h2 h3 hs34c hs34s) (fun o38 S37 H locs h hG => ?_)
  have hkc := hs34c
  have hks := hs34s
  obtain ⟨q39, rfl, h⟩ := h
  refine lv_astore_n (lv' := [(3, .ref q39), (0, .ref a0z), (1, .int x1z), (2, .int x2z)]) hx hb dX6_giveAway_5 rfl hl (by decide) rfl (fun ls hl => ?_)
  refine lv_aload_n hx hb dX6_giveAway_6 rfl (lv_at hl 1 rfl) ?_
  refine lv_iload_n hx hb dX6_giveAway_7 rfl (lv_at hl 3 rfl) ?_
  obtain ⟨⟨hL42, fK43⟩, h⟩ := h
  obtain ⟨mck40, msk40, ⟨hs41c, hs41s⟩, h⟩ := h
  refine qx_q hG (vx_runV (As := [.int x2z]) (rest := []) ⟨hx, hb, hml, hown, hts⟩ (c_X6_craneNumbered l hl9 g _ S37 a0z x2z h) (cwV 1 hts gX6_giveAway_X6_craneNumbered rfl rfl rfl (by decide +kernel) ⟨(Nat.le_of_ble_eq_true rfl), (Nat.le_of_ble_eq_true rfl)⟩) ⟨qs_Pc.blind _ _ _ _, hG.recv hL42 fK43 (by decide) rfl, hG.pre _⟩ rfl rfl hl.1 rfl (lv_room (Nat.le_of_ble_eq_true rfl)) dX6_giveAway_8 ⟨Nat.le_trans hs41c hmR, Nat.le_trans hs41s hsR⟩) (fun E S1 H locs ce q9 hp hG h1 h2 h3 => qx_out hnt hlk hG hp h1 h2 h3 hs41c hs41s) (fun o45 S44 H locs h hG => ?_)
  have hkc := hs41c
  have hks := hs41s
  obtain ⟨q46, rfl, h⟩ := h
  refine lv_astore (lv' := [(4, .ref q46), (3, .ref q39), (0, .ref a0z), (1, .int x1z), (2, .int x2z)]) hx hb dX6_giveAway_11 hl (by decide) rfl (fun ls hl => ?_)
  refine lv_aload_n hx hb dX6_giveAway_13 rfl (lv_at hl 1 rfl) ?_
  obtain ⟨⟨hL47, fK48⟩, h⟩ := h
  refine qr_get (C := RX1) (T := TX1) (N := 8) (ci := 2) hx hb hts in2 hown hG hL47 fK48 (by decide) rfl 5 (by decide) rfl (hts (.fieldLink RX6 225 "QuayMesh$Crane" "isSilent" "Z") (List.mem_of_getElem? (i := 3) rfl)) (u_same (hts (.sameField "QuayMesh$Crane" "QuayMesh$Worker" "isSilent" "Z") (List.mem_of_getElem? (i := 4) rfl))) (v := .int (qs_I S44 5 q39)) rfl dX6_giveAway_14 ?_
  refine lv_topi (fun v49 ev49 => ?_)
  have h := h v49 ev49
  refine lv_if_eq (tgt := 26) hx hb dX6_giveAway_17 (by decide) (fun c50 => ?_) (fun c50 => ?_)
  · have h := h.1 c50
    exact b26 S44 _ _ (0 + mck33 + mck40) (0 + msk33 + msk40) ls hkc hks h hG (lv_sub hl [] rfl)
  · have h := h.2 c50
    refine lv_aload_n hx hb dX6_giveAway_20 rfl (lv_at hl 1 rfl) ?_
    refine lv_aload hx hb dX6_giveAway_21 (lv_at hl 0 rfl) ?_
    refine lv_acmp_ne (rx := (some q39)) (ry := (some q46)) (tgt := 36) hx hb dX6_giveAway_23 (by decide) (fun c51 => ?_) (fun c51 => ?_)
    · have h := h.1 (fun z => c51 (congrArg some z))
      refine lv_aload_n hx hb dX6_giveAway_36 rfl (lv_at hl 1 rfl) ?_
      obtain ⟨q52, eq52, h⟩ := h
      refine qr_get (C := RX1) (T := TX1) (N := 8) (ci := 2) hx hb hts in2 hown hG hL47 fK48 (by decide) rfl 1 (by decide) rfl (hts (.fieldLink RX6 230 "QuayMesh$Crane" "waiting" "Ljava/util/ArrayList;") (List.mem_of_getElem? (i := 5) rfl)) (u_same (hts (.sameField "QuayMesh$Crane" "QuayMesh$Worker" "waiting" "Ljava/util/ArrayList;") (List.mem_of_getElem? (i := 6) rfl))) (v := .ref q52) (qs_rf eq52) dX6_giveAway_37 ?_
      obtain ⟨⟨hL55, fK56⟩, h⟩ := h
      refine qc_i hG (va_runV (As := []) (rest := []) ⟨hx, hb, hml, hown, hts⟩ (c_Jx4a65c_size_8abf5 l g _ S44 q52 h) (cwV 0 hts gX6_giveAway_Jx4a65c_size_8abf5 rfl rfl rfl (by decide +kernel) ⟨(Nat.le_of_ble_eq_true rfl), (Nat.le_of_ble_eq_true rfl)⟩) ⟨qs_Pc.blind _ _ _ _, hG.recv hL55 fK56 (by decide) rfl, hG.pre _⟩ rfl rfl hl.1 rfl (lv_room (Nat.le_of_ble_eq_true rfl)) dX6_giveAway_40 ⟨Nat.le_trans hkc hmR, Nat.le_trans hks hsR⟩) (fun v58 S57 H locs h hG => ?_)
      refine lv_istore (lv' := [(5, .int v58), (4, .ref q46), (3, .ref q39), (0, .ref a0z), (1, .int x1z), (2, .int x2z)]) hx hb dX6_giveAway_43 hl (by decide) rfl (fun ls hl => ?_)
      refine lv_iconst (v := (0 : Int32)) hx hb dX6_giveAway_45 (by decide +kernel) ?_
      refine lv_istore (lv' := [(6, .int (0 : Int32)), (5, .int v58), (4, .ref q46), (3, .ref q39), (0, .ref a0z), (1, .int x1z), (2, .int x2z)]) hx hb dX6_giveAway_46 hl (by decide) rfl (fun ls hl => ?_)
      obtain ⟨n59, h⟩ := h
      exact b48 n59 S57 q39 q46 v58 (0 : Int32) _ _ (0 + mck33 + mck40) (0 + msk33 + msk40) ls hkc hks h hG (lv_sub hl [3, 2, 1, 0] rfl)
    · have h := h.2 (Option.some.inj c51)
      exact b26 S44 _ _ (0 + mck33 + mck40) (0 + msk33 + msk40) ls hkc hks h hG (lv_sub hl [] rfl)
def wp_X6_park_b28 (t0 m9 : Nat) (mc ms : Nat) (post : Int32 → qs_S → Prop) (px : String → qs_S → Prop) (k n : Nat) (S : qs_S) : Prop := (k + 1 ≤ mc ∧ n + 6 ≤ ms) ∧ px "java/lang/IllegalStateException" S
def wp_X6_park (t0 m9 : Nat) (mc ms : Nat) (post : Int32 → qs_S → Prop) (px : String → qs_S → Prop) (SA : qs_S) (a0z : Nat) (x1z : Int32) (x2z : Int32) : Prop := (a0z ∈ qs_L SA ∧ qs_K SA a0z = 6) ∧ (∃ mck2 msk2 : Nat, (0 + mck2 ≤ mc ∧ 0 + msk2 ≤ ms) ∧ (wp_X6_craneNumbered t0 m9 mck2 msk2 (fun (o7 : Option Nat) (S6 : qs_S) => ∃ q8 : Nat, o7 = some q8 ∧ (∃ mck9 msk9 : Nat, (0 + mck2 + mck9 ≤ mc ∧ 0 + msk2 + msk9 ≤ ms) ∧ (wp_X6_requireOneOf t0 m9 mck9 msk9 (fun (S11 : qs_S) => (q8 ∈ qs_L S11 ∧ qs_K S11 q8 = 2) ∧ (∀ v14 : Int32, v14 = qs_I S11 5 q8 → (¬ v14 = 0 → (wp_X6_park_b28 t0 m9 mc ms post px (0 + mck2 + mck9) (0 + msk2 + msk9) S11)) ∧ (v14 = 0 → ((a0z ∈ qs_L S11 ∧ qs_K S11 a0z = 6) ∧ (∃ mck16 msk16 : Nat, (0 + mck2 + mck9 + mck16 ≤ mc ∧ 0 + msk2 + msk9 + msk16 ≤ ms) ∧ (wp_X6_canGo t0 m9 mck16 msk16 (fun (v21 : Int32) (S20 : qs_S) => (¬ v21 = 0 → ((q8 ∈ qs_L S20 ∧ qs_K S20 q8 = 2) ∧ (∀ v25 : Int32, v25 = qs_I S20 7 q8 → post v25 (qs_wI S20 7 q8 x2z)))) ∧ (v21 = 0 → (wp_X6_park_b28 t0 m9 mc ms post px (0 + mck2 + mck9 + mck16) (0 + msk2 + msk9 + msk16) S20))) px S11 a0z x1z x2z)))))) px S6 x2z (16 : Int32)))) px SA a0z x1z))
set_option maxHeartbeats 4000000 in
set_option maxRecDepth 100000 in
theorem c_X6_park (l : Launch) (hl9 : l.stackTraces = false) (g : qs_G) (sz : Nat) (SA : qs_S) (a0z : Nat) (x1z : Int32) (x2z : Int32) {mc ms : Nat} {post : Int32 → qs_S → Prop} {px : String → qs_S → Prop} (h : wp_X6_park g.2.2.2.2.2.2.1 g.2.2.2.2.2.2.2 mc ms post px SA a0z x1z x2z) : vx_Met l yX6_park wsX6_park ({ frames := 9, cells := mc, slots := ms, locals := 156 } : Room) (qs_Pc g sz SA [.ref a0z, .int x1z, .int x2z]) (qs_Qi g (qs_F g SA sz) post) (qs_X g (qs_F g SA sz) px) mc ms (qs_F g SA sz) := by
  refine vx_ofW (cc := cX6_park) (maxL := 5) (ret := (some .int)) (by decide +kernel) rfl ?_
  intro p e s m args below meth c s₁ B hml hnt hv
  obtain ⟨rfl, hsz, hG⟩ := qs_Gd.start hv
  subst hsz
  have hx := B.exec
  have hb := B.bytes
  have hr := B.returns
  have hts := atoms_spec (ws := wsX6_park) B.pre
  have hown : s.vm.findClass RX6 = some m.cls := findClass_of_methodNamed B.named
  have hlk := B.notSynchronized
  have in0 : ∀ w ∈ u_ws RJx4a65c TJx4a65c 3, w ∈ wsX6_park := fun w h => List.mem_cons_of_mem _ (List.mem_append_left _ (List.mem_append_left _ (List.mem_append_right _ (h))))
  have in2 : ∀ w ∈ u_ws RX1 TX1 8, w ∈ wsX6_park := fun w h => List.mem_cons_of_mem _ (List.mem_append_left _ (List.mem_append_left _ (List.mem_append_left _ (List.mem_append_left _ (List.mem_append_left _ (List.mem_append_right _ (h)))))))
  have in5 : ∀ w ∈ u_ws RX4 TX4 8, w ∈ wsX6_park := fun w h => List.mem_cons_of_mem _ (List.mem_append_left _ (List.mem_append_left _ (List.mem_append_left _ (List.mem_append_left _ (List.mem_append_right _ (h))))))
  have in6 : ∀ w ∈ u_ws RX6 TX6 8, w ∈ wsX6_park := fun w h => List.mem_cons_of_mem _ (List.mem_append_left _ (List.mem_append_left _ (List.mem_append_left _ (List.mem_append_right _ (h)))))
  have hkc : 0 ≤ mc := Nat.zero_le _
  have hks : 0 ≤ ms := Nat.zero_le _
  have hmR : mc ≤ (headSpec wsX6_park ({ frames := 9, cells := mc, slots := ms, locals := 156 } : Room)).room.cells := Nat.le_refl _
  have hsR : ms ≤ (headSpec wsX6_park ({ frames := 9, cells := mc, slots := ms, locals := 156 } : Room)).room.slots := Nat.le_refl _
  have b28 : ∀ (S : qs_S) (H : Heap) (locs : List Loc) (k n : Nat) (ls : Array Slot), k ≤ mc → n ≤ ms → wp_X6_park_b28 g.2.2.2.2.2.2.1 g.2.2.2.2.2.2.2 mc ms post px k n S → qs_Gd g (qs_F g SA s.heap.size) s S H locs → lv_has ls 5 [] → W p l e (headSpec wsX6_park ({ frames := 9, cells := mc, slots := ms, locals := 156 } : Room)).room s m (([.ref a0z, .int x1z, .int x2z] : List Value)).toArray below meth c H locs k n (vx_MQ below (qs_Qi g (qs_F g SA s.heap.size) post) (qs_X g (qs_F g SA s.heap.size) px) (([.ref a0z, .int x1z, .int x2z] : List Value)).toArray s mc ms (qs_F g SA s.heap.size)) (F0 m 28 ls []) := by
    intro S H locs k n ls hkc hks h hG hl
    unfold wp_X6_park_b28 at h
    obtain ⟨⟨hs1c, hs1s⟩, h⟩ := h
    exact qx_throw (ik := 70) (is := 237) (ic := 74) (cls := "java/lang/IllegalStateException") hx hb hl9 hts hown (by decide +kernel) (by decide +kernel) (List.mem_of_getElem? (i := 11) rfl) (hts (.classLink RX6 70 "java/lang/IllegalStateException") (List.mem_of_getElem? (i := 1) rfl)) (hts (.initialized "java/lang/IllegalStateException") (List.mem_of_getElem? (i := 2) rfl)) (fun w h => List.mem_cons_of_mem _ (List.mem_append_left _ (List.mem_append_right _ (h)))) qt_bd_ISE qt_gd_ISE hG (hl.1.trans hml.symm) dX6_park_28 dX6_park_31 dX6_park_32 dX6_park_34 dX6_park_37 hnt (Nat.le_of_ble_eq_true rfl) (Nat.le_of_ble_eq_true rfl) hmR hsR hlk h hs1c hs1s
  have hl := lv_entry ([.ref a0z, .int x1z, .int x2z]) (n := 5) (Nat.le_of_ble_eq_true rfl)
  rw [lg_entry_eq]
  generalize (lg_sl ([.ref a0z, .int x1z, .int x2z]) ++ List.replicate (5 - (lg_sl ([.ref a0z, .int x1z, .int x2z])).length) Slot.unset).toArray = ls at hl ⊢
  have hl : lv_has ls 5 [(0, .ref a0z), (1, .int x1z), (2, .int x2z)] := hl
  unfold wp_X6_park at h
  refine lv_aload_n hx hb dX6_park_0 rfl (lv_at hl 0 rfl) ?_
  refine lv_iload_n hx hb dX6_park_1 rfl (lv_at hl 1 rfl) ?_
  obtain ⟨⟨hL4, fK5⟩, h⟩ := h
  obtain ⟨mck2, msk2, ⟨hs3c, hs3s⟩, h⟩ := h
  refine qx_q hG (vx_runV (As := [.int x1z]) (rest := []) ⟨hx, hb, hml, hown, hts⟩ (c_X6_craneNumbered l hl9 g _ SA a0z x1z h) (cwV 1 hts gX6_park_X6_craneNumbered rfl rfl rfl (by decide +kernel) ⟨(Nat.le_of_ble_eq_true rfl), (Nat.le_of_ble_eq_true rfl)⟩) ⟨qs_Pc.blind _ _ _ _, hG.recv hL4 fK5 (by decide) rfl, hG.pre _⟩ rfl rfl hl.1 rfl (lv_room (Nat.le_of_ble_eq_true rfl)) dX6_park_2 ⟨Nat.le_trans hs3c hmR, Nat.le_trans hs3s hsR⟩) (fun E S1 H locs ce q9 hp hG h1 h2 h3 => qx_out hnt hlk hG hp h1 h2 h3 hs3c hs3s) (fun o7 S6 H locs h hG => ?_)
  have hkc := hs3c
  have hks := hs3s
  obtain ⟨q8, rfl, h⟩ := h
  refine lv_astore_n (lv' := [(3, .ref q8), (0, .ref a0z), (1, .int x1z), (2, .int x2z)]) hx hb dX6_park_5 rfl hl (by decide) rfl (fun ls hl => ?_)
  refine lv_iload_n hx hb dX6_park_6 rfl (lv_at hl 3 rfl) ?_
  refine lv_bipush (v := (16 : Int32)) hx hb dX6_park_7 (by decide +kernel) ?_
  obtain ⟨mck9, msk9, ⟨hs10c, hs10s⟩, h⟩ := h
  refine qx_v hG (vx_runS (As := [.int x2z, .int (16 : Int32)]) (rest := []) ⟨hx, hb, hml, hown, hts⟩ (c_X6_requireOneOf l hl9 g _ S6 x2z (16 : Int32) h) (va_cwS 2 hts gX6_park_X6_requireOneOf rfl rfl rfl (by decide +kernel) ⟨(Nat.le_of_ble_eq_true rfl), (Nat.le_of_ble_eq_true rfl)⟩) ⟨qs_Pc.blind _ _ _ _, hG.pre _⟩ rfl rfl hl.1 rfl (lv_room (Nat.le_of_ble_eq_true rfl)) dX6_park_9 ⟨Nat.le_trans hs10c hmR, Nat.le_trans hs10s hsR⟩) (fun E S1 H locs ce q9 hp hG h1 h2 h3 => qx_out hnt hlk hG hp h1 h2 h3 hs10c hs10s) (fun S11 H locs h hG => ?_)
  have hkc := hs10c
  have hks := hs10s
  refine lv_aload_n hx hb dX6_park_12 rfl (lv_at hl 0 rfl) ?_
  obtain ⟨⟨hL12, fK13⟩, h⟩ := h
  refine qr_get (C := RX1) (T := TX1) (N := 8) (ci := 2) hx hb hts in2 hown hG hL12 fK13 (by decide) rfl 5 (by decide) rfl (hts (.fieldLink RX6 225 "QuayMesh$Crane" "isSilent" "Z") (List.mem_of_getElem? (i := 3) rfl)) (u_same (hts (.sameField "QuayMesh$Crane" "QuayMesh$Worker" "isSilent" "Z") (List.mem_of_getElem? (i := 4) rfl))) (v := .int (qs_I S11 5 q8)) rfl dX6_park_13 ?_
  refine lv_topi (fun v14 ev14 => ?_)
  have h := h v14 ev14
  refine lv_if_ne (tgt := 28) hx hb dX6_park_16 (by decide) (fun c15 => ?_) (fun c15 => ?_)
  · have h := h.1 c15
    exact b28 S11 _ _ (0 + mck2 + mck9) (0 + msk2 + msk9) ls hkc hks h hG (lv_sub hl [] rfl)
  · have h := h.2 c15
    refine lv_aload_n hx hb dX6_park_19 rfl (lv_at hl 1 rfl) ?_
    refine lv_iload_n hx hb dX6_park_20 rfl (lv_at hl 2 rfl) ?_
    refine lv_iload_n hx hb dX6_park_21 rfl (lv_at hl 3 rfl) ?_
    obtain ⟨⟨hL18, fK19⟩, h⟩ := h
    obtain ⟨mck16, msk16, ⟨hs17c, hs17s⟩, h⟩ := h
    refine qx_i hG (vx_runV (As := [.int x1z, .int x2z]) (rest := []) ⟨hx, hb, hml, hown, hts⟩ (c_X6_canGo l hl9 g _ S11 a0z x1z x2z h) (cwV 2 hts gX6_park_X6_canGo rfl rfl rfl (by decide +kernel) ⟨(Nat.le_of_ble_eq_true rfl), (Nat.le_of_ble_eq_true rfl)⟩) ⟨qs_Pc.blind _ _ _ _, hG.recv hL18 fK19 (by decide) rfl, hG.pre _⟩ rfl rfl hl.1 rfl (lv_room (Nat.le_of_ble_eq_true rfl)) dX6_park_22 ⟨Nat.le_trans hs17c hmR, Nat.le_trans hs17s hsR⟩) (fun E S1 H locs ce q9 hp hG h1 h2 h3 => qx_out hnt hlk hG hp h1 h2 h3 hs17c hs17s) (fun v21 S20 H locs h hG => ?_)
    have hkc := hs17c
    have hks := hs17s
    refine lv_if_ne (tgt := 38) hx hb dX6_park_25 (by decide) (fun c22 => ?_) (fun c22 => ?_)
    · have h := h.1 c22
      refine lv_aload_n hx hb dX6_park_38 rfl (lv_at hl 0 rfl) ?_
      obtain ⟨⟨hL23, fK24⟩, h⟩ := h
      refine qr_get (C := RX1) (T := TX1) (N := 8) (ci := 2) hx hb hts in2 hown hG hL23 fK24 (by decide) rfl 7 (by decide) rfl (hts (.fieldLink RX6 239 "QuayMesh$Crane" "place" "I") (List.mem_of_getElem? (i := 5) rfl)) (fun _ h9 => h9) (v := .int (qs_I S20 7 q8)) rfl dX6_park_39 ?_
      refine lv_topi (fun v25 ev25 => ?_)
      have h := h v25 ev25
      refine lv_istore (lv' := [(4, .int v25), (3, .ref q8), (0, .ref a0z), (1, .int x1z), (2, .int x2z)]) hx hb dX6_park_42 hl (by decide) rfl (fun ls hl => ?_)
      refine lv_aload_n hx hb dX6_park_44 rfl (lv_at hl 1 rfl) ?_
      refine lv_iload_n hx hb dX6_park_45 rfl (lv_at hl 4 rfl) ?_
      refine qr_putI (C := RX1) (T := TX1) (N := 8) (ci := 2) hx hb hts in2 tyX1 tyX1_ok nmX1 hown hG hL23 fK24 (by decide) rfl 7 (by decide) rfl (hts (.fieldLink RX6 239 "QuayMesh$Crane" "place" "I") (List.mem_of_getElem? (i := 5) rfl)) (fun _ h9 => h9) rfl (x := x2z) (tyX1_ok 7 (by decide)) rfl rfl dX6_park_46 (fun H locs hG => ?_)
      refine lv_iload hx hb dX6_park_49 (lv_at hl 0 rfl) ?_
      refine vx_ret ?_
      exact qe_i hx hb hr hlk hG h hkc hks dX6_park_51
    · have h := h.2 c22
      exact b28 S20 _ _ (0 + mck2 + mck9 + mck16) (0 + msk2 + msk9 + msk16) ls hkc hks h hG (lv_sub hl [] rfl)

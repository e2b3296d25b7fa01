def wp_X6_book_b31 (t0 m9 : Nat) (mc ms : Nat) (post : Int32 → qs_S → Prop) (px : String → qs_S → Prop) (k n : Nat) (S : qs_S) : Prop := (k + 1 ≤ mc ∧ n + 6 ≤ ms) ∧ px "java/lang/IllegalArgumentException" S
def wp_X6_book_b83 (t0 m9 : Nat) (mc ms : Nat) (post : Int32 → qs_S → Prop) (px : String → qs_S → Prop) (k n : Nat) (S : qs_S) : Prop := (k + 1 ≤ mc ∧ n + 6 ≤ ms) ∧ px "java/lang/IllegalStateException" S
def wp_X6_book (t0 m9 : Nat) (mc ms : Nat) (post : Int32 → qs_S → Prop) (px : String → qs_S → Prop) (SA : qs_S) (a0z : Nat) (x1z : Int32) (x2z : Int32) (x3z : Int32) : Prop := ∃ mck3 msk3 : Nat, (0 + mck3 ≤ mc ∧ 0 + msk3 ≤ ms) ∧ (wp_X6_requireOneOf t0 m9 mck3 msk3 (fun (S5 : qs_S) => (a0z ∈ qs_L S5 ∧ qs_K S5 a0z = 6) ∧ (∃ mck6 msk6 : Nat, (0 + mck3 + mck6 ≤ mc ∧ 0 + msk3 + msk6 ≤ ms) ∧ (wp_X6_boxNumbered t0 m9 mck6 msk6 (fun (o11 : Option Nat) (S10 : qs_S) => ∃ q12 : Nat, o11 = some q12 ∧ ((a0z ∈ qs_L S10 ∧ qs_K S10 a0z = 6) ∧ (∀ v15 : Int32, v15 = qs_I S10 6 a0z → (x2z < v15 → (wp_X6_book_b31 t0 m9 mc ms post px (0 + mck3 + mck6) (0 + msk3 + msk6) S10)) ∧ (¬ x2z < v15 → (∀ v17 : Int32, v17 = qs_I S10 6 a0z → ∀ v18 : Int32, v18 = v17 + (24 : Int32) → (x2z ≤ v18 → (wp_X6_slotsLeft t0 m9 (fun (v23 : Int32) (S22 : qs_S) => (q12 ∈ qs_L S22 ∧ qs_K S22 q12 = 1) ∧ (∀ v26 : Int32, v26 = qs_I S22 2 q12 → (¬ v26 = (3 : Int32) → (wp_X6_book_b83 t0 m9 mc ms post px (0 + mck3 + mck6) (0 + msk3 + msk6) S22)) ∧ (v26 = (3 : Int32) → (wp_X0_isBooked t0 m9 (fun (v31 : Int32) (S30 : qs_S) => (¬ v31 = 0 → (wp_X6_book_b83 t0 m9 mc ms post px (0 + mck3 + mck6) (0 + msk3 + msk6) S30)) ∧ (v31 = 0 → ((v23 < (1 : Int32) → (wp_X6_book_b83 t0 m9 mc ms post px (0 + mck3 + mck6) (0 + msk3 + msk6) S30)) ∧ (¬ v23 < (1 : Int32) → ((a0z ∈ qs_L S30 ∧ qs_K S30 a0z = 6) ∧ (wp_X6_canComeOut t0 m9 (fun (v39 : Int32) (S38 : qs_S) => (¬ v39 = 0 → ((q12 ∈ qs_L S38 ∧ qs_K S38 q12 = 1) ∧ (∀ v43 : Int32, v43 = v23 - (1 : Int32) → post v43 (qs_wI (qs_wI S38 6 q12 x1z) 7 q12 x2z)))) ∧ (v39 = 0 → (wp_X6_book_b83 t0 m9 mc ms post px (0 + mck3 + mck6) (0 + msk3 + msk6) S38))) S30 a0z q12 x2z)))))) S22 q12)))) S10 a0z x1z x2z)) ∧ (¬ x2z ≤ v18 → (wp_X6_book_b31 t0 m9 mc ms post px (0 + mck3 + mck6) (0 + msk3 + msk6) S10))))))) px S5 a0z x3z))) px SA x1z (2 : Int32))
set_option maxHeartbeats 4000000 in
set_option maxRecDepth 100000 in
theorem c_X6_book (l : Launch) (hl9 : l.stackTraces = false) (g : qs_G) (sz : Nat) (SA : qs_S) (a0z : Nat) (x1z : Int32) (x2z : Int32) (x3z : Int32) {mc ms : Nat} {post : Int32 → qs_S → Prop} {px : String → qs_S → Prop} (h : wp_X6_book g.2.2.2.2.2.2.1 g.2.2.2.2.2.2.2 mc ms post px SA a0z x1z x2z x3z) : vx_Met l yX6_book wsX6_book ({ frames := 8, cells := mc, slots := ms, locals := 132 } : Room) (qs_Pc g sz SA [.ref a0z, .int x1z, .int x2z, .int x3z]) (qs_Qi g (qs_F g SA sz) post) (qs_X g (qs_F g SA sz) px) mc ms (qs_F g SA sz) := by
  refine vx_ofW (cc := cX6_book) (maxL := 6) (ret := (some .int)) (by decide +kernel) rfl ?_
  intro p e s m args below meth c s₁ B hml hnt hv
  obtain ⟨rfl, hsz, hG⟩ := qs_Gd.start hv
  subst hsz
  have hx := B.exec
  have hb := B.bytes
  have hr := B.returns
  have hts := atoms_spec (ws := wsX6_book) B.pre
  have hown : s.vm.findClass RX6 = some m.cls := findClass_of_methodNamed B.named
  have hlk := B.notSynchronized
  have in0 : ∀ w ∈ u_ws RJx4a65c TJx4a65c 3, w ∈ wsX6_book := fun w h => List.mem_cons_of_mem _ (List.mem_append_left _ (List.mem_append_left _ (List.mem_append_left _ (List.mem_append_right _ (h)))))
  have in1 : ∀ w ∈ u_ws RX0 TX0 8, w ∈ wsX6_book := fun w h => List.mem_cons_of_mem _ (List.mem_append_left _ (List.mem_append_left _ (List.mem_append_left _ (List.mem_append_left _ (List.mem_append_right _ (h))))))
  have in6 : ∀ w ∈ u_ws RX6 TX6 8, w ∈ wsX6_book := fun w h => List.mem_cons_of_mem _ (List.mem_append_left _ (List.mem_append_left _ (List.mem_append_left _ (List.mem_append_left _ (List.mem_append_left _ (List.mem_append_right _ (h)))))))
  have hkc : 0 ≤ mc := Nat.zero_le _
  have hks : 0 ≤ ms := Nat.zero_le _
  have hmR : mc ≤ (headSpec wsX6_book ({ frames := 8, cells := mc, slots := ms, locals := 132 } : Room)).room.cells := Nat.le_refl _
  have hsR : ms ≤ (headSpec wsX6_book ({ frames := 8, cells := mc, slots := ms, locals := 132 } : Room)).room.slots := Nat.le_refl _
  have b31 : ∀ (S : qs_S) (H : Heap) (locs : List Loc) (k n : Nat) (ls : Array Slot), k ≤ mc → n ≤ ms → wp_X6_book_b31 g.2.2.2.2.2.2.1 g.2.2.2.2.2.2.2 mc ms post px k n S → qs_Gd g (qs_F g SA s.heap.size) s S H locs → lv_has ls 6 [] → W p l e (headSpec wsX6_book ({ frames := 8, cells := mc, slots := ms, locals := 132 } : Room)).room s m (([.ref a0z, .int x1z, .int x2z, .int x3z] : List Value)).toArray below meth c H locs k n (vx_MQ below (qs_Qi g (qs_F g SA s.heap.size) post) (qs_X g (qs_F g SA s.heap.size) px) (([.ref a0z, .int x1z, .int x2z, .int x3z] : List Value)).toArray s mc ms (qs_F g SA s.heap.size)) (F0 m 31 ls []) := by
    intro S H locs k n ls hkc hks h hG hl
    unfold wp_X6_book_b31 at h
    obtain ⟨⟨hs1c, hs1s⟩, h⟩ := h
    exact qx_throwW (ik := 55) (is := 306) (ic := 59) (cls := "java/lang/IllegalArgumentException") hx hb hl9 hts hown (by decide +kernel) (by decide +kernel) (List.mem_of_getElem? (i := 13) rfl) (hts (.classLink RX6 55 "java/lang/IllegalArgumentException") (List.mem_of_getElem? (i := 1) rfl)) (hts (.initialized "java/lang/IllegalArgumentException") (List.mem_of_getElem? (i := 2) rfl)) (fun w h => List.mem_cons_of_mem _ (List.mem_append_left _ (List.mem_append_left _ (List.mem_append_right _ (h))))) qt_bd_IAE qt_gd_IAE hG (hl.1.trans hml.symm) dX6_book_31 dX6_book_34 dX6_book_35 dX6_book_38 dX6_book_41 hnt (Nat.le_of_ble_eq_true rfl) (Nat.le_of_ble_eq_true rfl) hmR hsR hlk h hs1c hs1s
  have b83 : ∀ (S : qs_S) (H : Heap) (locs : List Loc) (k n : Nat) (ls : Array Slot), k ≤ mc → n ≤ ms → wp_X6_book_b83 g.2.2.2.2.2.2.1 g.2.2.2.2.2.2.2 mc ms post px k n S → qs_Gd g (qs_F g SA s.heap.size) s S H locs → lv_has ls 6 [] → W p l e (headSpec wsX6_book ({ frames := 8, cells := mc, slots := ms, locals := 132 } : Room)).room s m (([.ref a0z, .int x1z, .int x2z, .int x3z] : List Value)).toArray below meth c H locs k n (vx_MQ below (qs_Qi g (qs_F g SA s.heap.size) post) (qs_X g (qs_F g SA s.heap.size) px) (([.ref a0z, .int x1z, .int x2z, .int x3z] : List Value)).toArray s mc ms (qs_F g SA s.heap.size)) (F0 m 83 ls []) := by
    intro S H locs k n ls hkc hks h hG hl
    unfold wp_X6_book_b83 at h
    obtain ⟨⟨hs2c, hs2s⟩, h⟩ := h
    exact qx_throwW (ik := 70) (is := 318) (ic := 74) (cls := "java/lang/IllegalStateException") hx hb hl9 hts hown (by decide +kernel) (by decide +kernel) (List.mem_of_getElem? (i := 19) rfl) (hts (.classLink RX6 70 "java/lang/IllegalStateException") (List.mem_of_getElem? (i := 3) rfl)) (hts (.initialized "java/lang/IllegalStateException") (List.mem_of_getElem? (i := 4) rfl)) (fun w h => List.mem_cons_of_mem _ (List.mem_append_left _ (List.mem_append_right _ (h)))) qt_bd_ISE qt_gd_ISE hG (hl.1.trans hml.symm) dX6_book_83 dX6_book_86 dX6_book_87 dX6_book_90 dX6_book_93 hnt (Nat.le_of_ble_eq_true rfl) (Nat.le_of_ble_eq_true rfl) hmR hsR hlk h hs2c hs2s
  have hl := lv_entry ([.ref a0z, .int x1z, .int x2z, .int x3z]) (n := 6) (Nat.le_of_ble_eq_true rfl)
  rw [lg_entry_eq]
  generalize (lg_sl ([.ref a0z, .int x1z, .int x2z, .int x3z]) ++ List.replicate (6 - (lg_sl ([.ref a0z, .int x1z, .int x2z, .int x3z])).length) Slot.unset).toArray = ls at hl ⊢
  have hl : lv_has ls 6 [(0, .ref a0z), (1, .int x1z), (2, .int x2z), (3, .int x3z)] := hl
  unfold wp_X6_book at h
  refine lv_iload_n hx hb dX6_book_0 rfl (lv_at hl 1 rfl) ?_
  refine lv_iconst (v := (2 : Int32)) hx hb dX6_book_1 (by decide +kernel) ?_
  obtain ⟨mck3, msk3, ⟨hs4c, hs4s⟩, h⟩ := h
  refine qx_v hG (vx_runS (As := [.int x1z, .int (2 : Int32)]) (rest := []) ⟨hx, hb, hml, hown, hts⟩ (c_X6_requireOneOf l hl9 g _ SA x1z (2 : Int32) h) (va_cwS 2 hts gX6_book_X6_requireOneOf rfl rfl rfl (by decide +kernel) ⟨(Nat.le_of_ble_eq_true rfl), (Nat.le_of_ble_eq_true rfl)⟩) ⟨qs_Pc.blind _ _ _ _, hG.pre _⟩ rfl rfl hl.1 rfl (lv_room (Nat.le_of_ble_eq_true rfl)) dX6_book_2 ⟨Nat.le_trans hs4c hmR, Nat.le_trans hs4s hsR⟩) (fun E S1 H locs ce q9 hp hG h1 h2 h3 => qx_out hnt hlk hG hp h1 h2 h3 hs4c hs4s) (fun S5 H locs h hG => ?_)
  have hkc := hs4c
  have hks := hs4s
  refine lv_aload_n hx hb dX6_book_5 rfl (lv_at hl 0 rfl) ?_
  refine lv_iload_n hx hb dX6_book_6 rfl (lv_at hl 3 rfl) ?_
  obtain ⟨⟨hL8, fK9⟩, h⟩ := h
  obtain ⟨mck6, msk6, ⟨hs7c, hs7s⟩, h⟩ := h
  refine qx_q hG (vx_runV (As := [.int x3z]) (rest := []) ⟨hx, hb, hml, hown, hts⟩ (c_X6_boxNumbered l hl9 g _ S5 a0z x3z h) (cwV 1 hts gX6_book_X6_boxNumbered rfl rfl rfl (by decide +kernel) ⟨(Nat.le_of_ble_eq_true rfl), (Nat.le_of_ble_eq_true rfl)⟩) ⟨qs_Pc.blind _ _ _ _, hG.recv hL8 fK9 (by decide) rfl, hG.pre _⟩ rfl rfl hl.1 rfl (lv_room (Nat.le_of_ble_eq_true rfl)) dX6_book_7 ⟨Nat.le_trans hs7c hmR, Nat.le_trans hs7s hsR⟩) (fun E S1 H locs ce q9 hp hG h1 h2 h3 => qx_out hnt hlk hG hp h1 h2 h3 hs7c hs7s) (fun o11 S10 H locs h hG => ?_)
  have hkc := hs7c
  have hks := hs7s
  obtain ⟨q12, rfl, h⟩ := h
  refine lv_astore (lv' := [(4, .ref q12), (0, .ref a0z), (1, .int x1z), (2, .int x2z), (3, .int x3z)]) hx hb dX6_book_10 hl (by decide) rfl (fun ls hl => ?_)
  refine lv_iload_n hx hb dX6_book_12 rfl (lv_at hl 3 rfl) ?_
  refine lv_aload_n hx hb dX6_book_13 rfl (lv_at hl 1 rfl) ?_
  obtain ⟨⟨hL13, fK14⟩, h⟩ := h
  refine qr_get (C := RX6) (T := TX6) (N := 8) (ci := 6) hx hb hts in6 hown hG hL13 fK14 (by decide) rfl 6 (by decide) rfl (hts (.fieldLink RX6 31 "QuayMesh" "now" "I") (List.mem_of_getElem? (i := 5) rfl)) (fun _ h9 => h9) (v := .int (qs_I S10 6 a0z)) rfl dX6_book_14 ?_
  refine lv_topi (fun v15 ev15 => ?_)
  have h := h v15 ev15
  refine lv_icmp_lt (tgt := 31) hx hb dX6_book_17 (by decide) (fun c16 => ?_) (fun c16 => ?_)
  · have h := h.1 c16
    exact b31 S10 _ _ (0 + mck3 + mck6) (0 + msk3 + msk6) ls hkc hks h hG (lv_sub hl [] rfl)
  · have h := h.2 c16
    refine lv_iload_n hx hb dX6_book_20 rfl (lv_at hl 3 rfl) ?_
    refine lv_aload_n hx hb dX6_book_21 rfl (lv_at hl 1 rfl) ?_
    refine qr_get (C := RX6) (T := TX6) (N := 8) (ci := 6) hx hb hts in6 hown hG hL13 fK14 (by decide) rfl 6 (by decide) rfl (hts (.fieldLink RX6 31 "QuayMesh" "now" "I") (List.mem_of_getElem? (i := 5) rfl)) (fun _ h9 => h9) (v := .int (qs_I S10 6 a0z)) rfl dX6_book_22 ?_
    refine lv_topi (fun v17 ev17 => ?_)
    have h := h v17 ev17
    refine lv_bipush (v := (24 : Int32)) hx hb dX6_book_25 (by decide +kernel) ?_
    refine lv_iadd hx hb dX6_book_27 ?_
    refine lv_topi (fun v18 ev18 => ?_)
    have h := h v18 ev18
    refine lv_icmp_le (tgt := 42) hx hb dX6_book_28 (by decide) (fun c19 => ?_) (fun c19 => ?_)
    · have h := h.1 c19
      refine lv_aload_n hx hb dX6_book_42 rfl (lv_at hl 1 rfl) ?_
      refine lv_iload_n hx hb dX6_book_43 rfl (lv_at hl 2 rfl) ?_
      refine lv_iload_n hx hb dX6_book_44 rfl (lv_at hl 3 rfl) ?_
      refine qc_i hG (va_runV (As := [.int x1z, .int x2z]) (rest := []) ⟨hx, hb, hml, hown, hts⟩ (c_X6_slotsLeft l g _ S10 a0z x1z x2z h) (cwV 2 hts gX6_book_X6_slotsLeft rfl rfl rfl (by decide +kernel) ⟨(Nat.le_of_ble_eq_true rfl), (Nat.le_of_ble_eq_true rfl)⟩) ⟨qs_Pc.blind _ _ _ _, hG.recv hL13 fK14 (by decide) rfl, hG.pre _⟩ rfl rfl hl.1 rfl (lv_room (Nat.le_of_ble_eq_true rfl)) dX6_book_45 ⟨Nat.le_trans hkc hmR, Nat.le_trans hks hsR⟩) (fun v23 S22 H locs h hG => ?_)
      refine lv_istore (lv' := [(5, .int v23), (4, .ref q12), (0, .ref a0z), (1, .int x1z), (2, .int x2z), (3, .int x3z)]) hx hb dX6_book_48 hl (by decide) rfl (fun ls hl => ?_)
      refine lv_aload hx hb dX6_book_50 (lv_at hl 1 rfl) ?_
      obtain ⟨⟨hL24, fK25⟩, h⟩ := h
      refine qr_get (C := RX0) (T := TX0) (N := 8) (ci := 1) hx hb hts in1 hown hG hL24 fK25 (by decide) rfl 2 (by decide) rfl (hts (.fieldLink RX6 105 "QuayMesh$Box" "where" "I") (List.mem_of_getElem? (i := 6) rfl)) (fun _ h9 => h9) (v := .int (qs_I S22 2 q12)) rfl dX6_book_52 ?_
      refine lv_topi (fun v26 ev26 => ?_)
      have h := h v26 ev26
      refine lv_iconst (v := (3 : Int32)) hx hb dX6_book_55 (by decide +kernel) ?_
      refine lv_icmp_ne (tgt := 83) hx hb dX6_book_56 (by decide) (fun c27 => ?_) (fun c27 => ?_)
      · have h := h.1 c27
        exact b83 S22 _ _ (0 + mck3 + mck6) (0 + msk3 + msk6) ls hkc hks h hG (lv_sub hl [] rfl)
      · have h := h.2 c27
        refine lv_aload hx hb dX6_book_59 (lv_at hl 1 rfl) ?_
        refine qc_i hG (va_runV (As := []) (rest := []) ⟨hx, hb, hml, hown, hts⟩ (c_X0_isBooked l g _ S22 q12 h) (cwV 0 hts gX6_book_X0_isBooked rfl rfl rfl (by decide +kernel) ⟨(Nat.le_of_ble_eq_true rfl), (Nat.le_of_ble_eq_true rfl)⟩) ⟨qs_Pc.blind _ _ _ _, hG.recv hL24 fK25 (by decide) rfl, hG.pre _⟩ rfl rfl hl.1 rfl (lv_room (Nat.le_of_ble_eq_true rfl)) dX6_book_61 ⟨Nat.le_trans hkc hmR, Nat.le_trans hks hsR⟩) (fun v31 S30 H locs h hG => ?_)
        refine lv_if_ne (tgt := 83) hx hb dX6_book_64 (by decide) (fun c32 => ?_) (fun c32 => ?_)
        · have h := h.1 c32
          exact b83 S30 _ _ (0 + mck3 + mck6) (0 + msk3 + msk6) ls hkc hks h hG (lv_sub hl [] rfl)
        · have h := h.2 c32
          refine lv_iload hx hb dX6_book_67 (lv_at hl 0 rfl) ?_
          refine lv_iconst (v := (1 : Int32)) hx hb dX6_book_69 (by decide +kernel) ?_
          refine lv_icmp_lt (tgt := 83) hx hb dX6_book_70 (by decide) (fun c33 => ?_) (fun c33 => ?_)
          · have h := h.1 c33
            exact b83 S30 _ _ (0 + mck3 + mck6) (0 + msk3 + msk6) ls hkc hks h hG (lv_sub hl [] rfl)
          · have h := h.2 c33
            refine lv_aload_n hx hb dX6_book_73 rfl (lv_at hl 2 rfl) ?_
            refine lv_aload hx hb dX6_book_74 (lv_at hl 1 rfl) ?_
            refine lv_iload_n hx hb dX6_book_76 rfl (lv_at hl 4 rfl) ?_
            obtain ⟨⟨hL36, fK37⟩, h⟩ := h
            refine qc_i hG (va_runV (As := [.ref q12, .int x2z]) (rest := []) ⟨hx, hb, hml, hown, hts⟩ (c_X6_canComeOut l g _ S30 a0z q12 x2z h) (cwV 2 hts gX6_book_X6_canComeOut rfl rfl rfl (by decide +kernel) ⟨(Nat.le_of_ble_eq_true rfl), (Nat.le_of_ble_eq_true rfl)⟩) ⟨qs_Pc.blind _ _ _ _, hG.recv hL36 fK37 (by decide) rfl, hG.pre _⟩ rfl rfl hl.1 rfl (lv_room (Nat.le_of_ble_eq_true rfl)) dX6_book_77 ⟨Nat.le_trans hkc hmR, Nat.le_trans hks hsR⟩) (fun v39 S38 H locs h hG => ?_)
            refine lv_if_ne (tgt := 94) hx hb dX6_book_80 (by decide) (fun c40 => ?_) (fun c40 => ?_)
            · have h := h.1 c40
              refine lv_aload hx hb dX6_book_94 (lv_at hl 1 rfl) ?_
              refine lv_iload_n hx hb dX6_book_96 rfl (lv_at hl 3 rfl) ?_
              obtain ⟨⟨hL41, fK42⟩, h⟩ := h
              refine qr_putI (C := RX0) (T := TX0) (N := 8) (ci := 1) hx hb hts in1 tyX0 tyX0_ok nmX0 hown hG hL41 fK42 (by decide) rfl 6 (by decide) rfl (hts (.fieldLink RX6 320 "QuayMesh$Box" "bookedGate" "I") (List.mem_of_getElem? (i := 7) rfl)) (fun _ h9 => h9) rfl (x := x1z) (tyX0_ok 6 (by decide)) rfl rfl dX6_book_97 (fun H locs hG => ?_)
              refine lv_aload hx hb dX6_book_100 (lv_at hl 1 rfl) ?_
              refine lv_iload_n hx hb dX6_book_102 rfl (lv_at hl 4 rfl) ?_
              refine qr_putI (C := RX0) (T := TX0) (N := 8) (ci := 1) hx hb hts in1 tyX0 tyX0_ok nmX0 hown hG hL41 fK42 (by decide) rfl 7 (by decide) rfl (hts (.fieldLink RX6 323 "QuayMesh$Box" "bookedHour" "I") (List.mem_of_getElem? (i := 8) rfl)) (fun _ h9 => h9) rfl (x := x2z) (tyX0_ok 7 (by decide)) rfl rfl dX6_book_103 (fun H locs hG => ?_)
              refine lv_iload hx hb dX6_book_106 (lv_at hl 0 rfl) ?_
              refine lv_iconst (v := (1 : Int32)) hx hb dX6_book_108 (by decide +kernel) ?_
              refine lv_isub hx hb dX6_book_109 ?_
              refine lv_topi (fun v43 ev43 => ?_)
              have h := h v43 ev43
              refine vx_ret ?_
              exact qe_i hx hb hr hlk hG h hkc hks dX6_book_110
            · have h := h.2 c40
              exact b83 S38 _ _ (0 + mck3 + mck6) (0 + msk3 + msk6) ls hkc hks h hG (lv_sub hl [] rfl)
    · have h := h.2 c19
      exact b31 S10 _ _ (0 + mck3 + mck6) (0 + msk3 + msk6) ls hkc hks h hG (lv_sub hl [] rfl)
def wp_X6_unbook (t0 m9 : Nat) (mc ms : Nat) (post : Int32 → qs_S → Prop) (px : String → qs_S → Prop) (SA : qs_S) (a0z : Nat) (x1z : Int32) : Prop := (a0z ∈ qs_L SA ∧ qs_K SA a0z = 6) ∧ (∃ mck1 msk1 : Nat, (0 + mck1 ≤ mc ∧ 0 + msk1 ≤ ms) ∧ (wp_X6_boxNumbered t0 m9 mck1 msk1 (fun (o6 : Option Nat) (S5 : qs_S) => ∃ q7 : Nat, o6 = some q7 ∧ ((q7 ∈ qs_L S5 ∧ qs_K S5 q7 = 1) ∧ (wp_X0_isBooked t0 m9 (fun (v13 : Int32) (S12 : qs_S) => (¬ v13 = 0 → ((q7 ∈ qs_L S12 ∧ qs_K S12 q7 = 1) ∧ (∀ v17 : Int32, v17 = qs_I S12 7 q7 → wp_X0_dropBooking t0 m9 (fun (S20 : qs_S) => post v17 S20) S12 q7))) ∧ (v13 = 0 → ((0 + mck1 + 1 ≤ mc ∧ 0 + msk1 + 6 ≤ ms) ∧ px "java/lang/IllegalStateException" S12))) S5 q7))) px SA a0z x1z))
set_option maxHeartbeats 4000000 in
set_option maxRecDepth 100000 in
theorem c_X6_unbook (l : Launch) (hl9 : l.stackTraces = false) (g : qs_G) (sz : Nat) (SA : qs_S) (a0z : Nat) (x1z : Int32) {mc ms : Nat} {post : Int32 → qs_S → Prop} {px : String → qs_S → Prop} (h : wp_X6_unbook g.2.2.2.2.2.2.1 g.2.2.2.2.2.2.2 mc ms post px SA a0z x1z) : vx_Met l yX6_unbook wsX6_unbook ({ frames := 8, cells := mc, slots := ms, locals := 132 } : Room) (qs_Pc g sz SA [.ref a0z, .int x1z]) (qs_Qi g (qs_F g SA sz) post) (qs_X g (qs_F g SA sz) px) mc ms (qs_F g SA sz) := by
  refine vx_ofW (cc := cX6_unbook) (maxL := 4) (ret := (some .int)) (by decide +kernel) rfl ?_
  intro p e s m args below meth c s₁ B hml hnt hv
  obtain ⟨rfl, hsz, hG⟩ := qs_Gd.start hv
  subst hsz
  have hx := B.exec
  have hb := B.bytes
  have hr := B.returns
  have hts := atoms_spec (ws := wsX6_unbook) B.pre
  have hown : s.vm.findClass RX6 = some m.cls := findClass_of_methodNamed B.named
  have hlk := B.notSynchronized
  have in0 : ∀ w ∈ u_ws RJx4a65c TJx4a65c 3, w ∈ wsX6_unbook := fun w h => List.mem_cons_of_mem _ (List.mem_append_left _ (List.mem_append_left _ (List.mem_append_right _ (h))))
  have in1 : ∀ w ∈ u_ws RX0 TX0 8, w ∈ wsX6_unbook := fun w h => List.mem_cons_of_mem _ (List.mem_append_left _ (List.mem_append_left _ (List.mem_append_left _ (List.mem_append_left _ (List.mem_append_right _ (h))))))
  have in6 : ∀ w ∈ u_ws RX6 TX6 8, w ∈ wsX6_unbook := fun w h => List.mem_cons_of_mem _ (List.mem_append_left _ (List.mem_append_left _ (List.mem_append_left _ (List.mem_append_right _ (h)))))
  have hkc : 0 ≤ mc := Nat.zero_le _
  have hks : 0 ≤ ms := Nat.zero_le _
  have hmR : mc ≤ (headSpec wsX6_unbook ({ frames := 8, cells := mc, slots := ms, locals := 132 } : Room)).room.cells := Nat.le_refl _
  have hsR : ms ≤ (headSpec wsX6_unbook ({ frames := 8, cells := mc, slots := ms, locals := 132 } : Room)).room.slots := Nat.le_refl _
  have hl := lv_entry ([.ref a0z, .int x1z]) (n := 4) (Nat.le_of_ble_eq_true rfl)
  rw [lg_entry_eq]
  generalize (lg_sl ([.ref a0z, .int x1z]) ++ List.replicate (4 - (lg_sl ([.ref a0z, .int x1z])).length) Slot.unset).toArray = ls at hl ⊢
  have hl : lv_has ls 4 [(0, .ref a0z), (1, .int x1z)] := hl
  unfold wp_X6_unbook at h
  refine lv_aload_n hx hb dX6_unbook_0 rfl (lv_at hl 0 rfl) ?_
  refine lv_iload_n hx hb dX6_unbook_1 rfl (lv_at hl 1 rfl) ?_
  obtain ⟨⟨hL3, fK4⟩, h⟩ := h
  obtain ⟨mck1, msk1, ⟨hs2c, hs2s⟩, h⟩ := h
  refine qx_q hG (vx_runV (As := [.int x1z]) (rest := []) ⟨hx, hb, hml, hown, hts⟩ (c_X6_boxNumbered l hl9 g _ SA a0z x1z h) (cwV 1 hts gX6_unbook_X6_boxNumbered rfl rfl rfl (by decide +kernel) ⟨(Nat.le_of_ble_eq_true rfl), (Nat.le_of_ble_eq_true rfl)⟩) ⟨qs_Pc.blind _ _ _ _, hG.recv hL3 fK4 (by decide) rfl, hG.pre _⟩ rfl rfl hl.1 rfl (lv_room (Nat.le_of_ble_eq_true rfl)) dX6_unbook_2 ⟨Nat.le_trans hs2c hmR, Nat.le_trans hs2s hsR⟩) (fun E S1 H locs ce q9 hp hG h1 h2 h3 => qx_out hnt hlk hG hp h1 h2 h3 hs2c hs2s) (fun o6 S5 H locs h hG => ?_)
  have hkc := hs2c
  have hks := hs2s
  obtain ⟨q7, rfl, h⟩ := h
  refine lv_astore_n (lv' := [(2, .ref q7), (0, .ref a0z), (1, .int x1z)]) hx hb dX6_unbook_5 rfl hl (by decide) rfl (fun ls hl => ?_)
  refine lv_aload_n hx hb dX6_unbook_6 rfl (lv_at hl 0 rfl) ?_
  obtain ⟨⟨hL10, fK11⟩, h⟩ := h
  refine qc_i hG (va_runV (As := []) (rest := []) ⟨hx, hb, hml, hown, hts⟩ (c_X0_isBooked l g _ S5 q7 h) (cwV 0 hts gX6_unbook_X0_isBooked rfl rfl rfl (by decide +kernel) ⟨(Nat.le_of_ble_eq_true rfl), (Nat.le_of_ble_eq_true rfl)⟩) ⟨qs_Pc.blind _ _ _ _, hG.recv hL10 fK11 (by decide) rfl, hG.pre _⟩ rfl rfl hl.1 rfl (lv_room (Nat.le_of_ble_eq_true rfl)) dX6_unbook_7 ⟨Nat.le_trans hkc hmR, Nat.le_trans hks hsR⟩) (fun v13 S12 H locs h hG => ?_)
  refine lv_if_ne (tgt := 24) hx hb dX6_unbook_10 (by decide) (fun c14 => ?_) (fun c14 => ?_)
  · have h := h.1 c14
    refine lv_aload_n hx hb dX6_unbook_24 rfl (lv_at hl 0 rfl) ?_
    obtain ⟨⟨hL15, fK16⟩, h⟩ := h
    refine qr_get (C := RX0) (T := TX0) (N := 8) (ci := 1) hx hb hts in1 hown hG hL15 fK16 (by decide) rfl 7 (by decide) rfl (hts (.fieldLink RX6 323 "QuayMesh$Box" "bookedHour" "I") (List.mem_of_getElem? (i := 3) rfl)) (fun _ h9 => h9) (v := .int (qs_I S12 7 q7)) rfl dX6_unbook_25 ?_
    refine lv_topi (fun v17 ev17 => ?_)
    have h := h v17 ev17
    refine lv_istore_n (lv' := [(3, .int v17), (2, .ref q7), (0, .ref a0z), (1, .int x1z)]) hx hb dX6_unbook_28 rfl hl (by decide) rfl (fun ls hl => ?_)
    refine lv_aload_n hx hb dX6_unbook_29 rfl (lv_at hl 1 rfl) ?_
    refine qc_v hG (va_runV (As := []) (rest := []) ⟨hx, hb, hml, hown, hts⟩ (c_X0_dropBooking l g _ S12 q7 h) (cwV 0 hts gX6_unbook_X0_dropBooking rfl rfl rfl (by decide +kernel) ⟨(Nat.le_of_ble_eq_true rfl), (Nat.le_of_ble_eq_true rfl)⟩) ⟨qs_Pc.blind _ _ _ _, hG.recv hL15 fK16 (by decide) rfl, hG.pre _⟩ rfl rfl hl.1 rfl (lv_room (Nat.le_of_ble_eq_true rfl)) dX6_unbook_30 ⟨Nat.le_trans hkc hmR, Nat.le_trans hks hsR⟩) (fun S20 H locs h hG => ?_)
    refine lv_iload_n hx hb dX6_unbook_33 rfl (lv_at hl 0 rfl) ?_
    refine vx_ret ?_
    exact qe_i hx hb hr hlk hG h hkc hks dX6_unbook_34
  · have h := h.2 c14
    obtain ⟨⟨hs21c, hs21s⟩, h⟩ := h
    exact qx_throwW (ik := 70) (is := 326) (ic := 74) (cls := "java/lang/IllegalStateException") hx hb hl9 hts hown (by decide +kernel) (by decide +kernel) (List.mem_of_getElem? (i := 4) rfl) (hts (.classLink RX6 70 "java/lang/IllegalStateException") (List.mem_of_getElem? (i := 1) rfl)) (hts (.initialized "java/lang/IllegalStateException") (List.mem_of_getElem? (i := 2) rfl)) (fun w h => List.mem_cons_of_mem _ (List.mem_append_left _ (List.mem_append_right _ (h)))) qt_bd_ISE qt_gd_ISE hG (hl.1.trans hml.symm) dX6_unbook_13 dX6_unbook_16 dX6_unbook_17 dX6_unbook_20 dX6_unbook_23 hnt (Nat.le_of_ble_eq_true rfl) (Nat.le_of_ble_eq_true rfl) hmR hsR hlk h hs21c hs21s
def wp_X6_advance_b11 (t0 m9 : Nat) (mc ms : Nat) (post : Int32 → qs_S → Prop) (px : String → qs_S → Prop) (k n : Nat) (S : qs_S) : Prop := (k + 1 ≤ mc ∧ n + 6 ≤ ms) ∧ px "java/lang/IllegalArgumentException" S
def wp_X6_advance_b111 (t0 m9 : Nat) (mc ms : Nat) (post : Int32 → qs_S → Prop) (px : String → qs_S → Prop) (K59 : Nat → Nat → qs_S → Nat → Int32 → Int32 → Prop) (k n : Nat) (S : qs_S) (a0 : Nat) (x2 : Int32) (x3 : Int32) : Prop := ∀ v2 : Int32, v2 = x3 + 1 → K59 k n S a0 x2 v2
def wp_X6_advance_c59 (t0 m9 : Nat) (mc ms : Nat) (post : Int32 → qs_S → Prop) (px : String → qs_S → Prop) (K59 : Nat → Nat → qs_S → Nat → Int32 → Int32 → Prop) (k n : Nat) (S : qs_S) (a0 : Nat) (x2 : Int32) (x3 : Int32) : Prop := (a0 ∈ qs_L S ∧ qs_K S a0 = 6) ∧ (∃ q5 : Nat, qs_R S 1 a0 = some q5 ∧ ((q5 ∈ qs_L S ∧ qs_K S q5 = 0) ∧ (wp_Jx4a65c_size_8abf5 t0 m9 (fun (v11 : Int32) (S10 : qs_S) => (v11 ≤ x3 → (post x2 S10)) ∧ (¬ v11 ≤ x3 → ((a0 ∈ qs_L S10 ∧ qs_K S10 a0 = 6) ∧ (∃ q15 : Nat, qs_R S10 1 a0 = some q15 ∧ ((q15 ∈ qs_L S10 ∧ qs_K S10 q15 = 0) ∧ (wp_Jx4a65c_get_915e3 t0 m9 (fun (o21 : Option Nat) (S20 : qs_S) => ∃ q22 : Nat, o21 = some q22 ∧ ((q22 ∈ qs_L S20 ∧ qs_K S20 q22 = 1) ∧ (wp_X0_isBooked t0 m9 (fun (v28 : Int32) (S27 : qs_S) => (v28 = 0 → (wp_X6_advance_b111 t0 m9 mc ms post px K59 k n S27 a0 x2 x3)) ∧ (¬ v28 = 0 → ((q22 ∈ qs_L S27 ∧ qs_K S27 q22 = 1) ∧ (∀ v32 : Int32, v32 = qs_I S27 7 q22 → (a0 ∈ qs_L S27 ∧ qs_K S27 a0 = 6) ∧ (∀ v35 : Int32, v35 = qs_I S27 6 a0 → (v35 ≤ v32 → (wp_X6_advance_b111 t0 m9 mc ms post px K59 k n S27 a0 x2 x3)) ∧ (¬ v35 ≤ v32 → (wp_X0_dropBooking t0 m9 (fun (S39 : qs_S) => ∀ v40 : Int32, v40 = x2 + 1 → wp_X6_advance_b111 t0 m9 mc ms post px K59 k n S39 a0 v40 x3) S27 q22))))))) S20 q22))) S10 q15 x3)))))) S q5)))
def wp_X6_advance_b59 (t0 m9 : Nat) (mc ms : Nat) (post : Int32 → qs_S → Prop) (px : String → qs_S → Prop) : Nat → Nat → Nat → qs_S → Nat → Int32 → Int32 → Prop
  | 0 => fun _ _ _ _ _ _ => False
  | n9 + 1 => wp_X6_advance_c59 t0 m9 mc ms post px (wp_X6_advance_b59 t0 m9 mc ms post px n9)
def wp_X6_advance (t0 m9 : Nat) (mc ms : Nat) (post : Int32 → qs_S → Prop) (px : String → qs_S → Prop) (SA : qs_S) (a0z : Nat) (x1z : Int32) : Prop := (x1z < (1 : Int32) → (wp_X6_advance_b11 t0 m9 mc ms post px 0 0 SA)) ∧ (¬ x1z < (1 : Int32) → ((x1z ≤ (48 : Int32) → ((a0z ∈ qs_L SA ∧ qs_K SA a0z = 6) ∧ (∀ v45 : Int32, v45 = qs_I SA 6 a0z → ∀ v46 : Int32, v46 = v45 + x1z → (v46 ≤ (5000 : Int32) → (∀ v48 : Int32, v48 = qs_I SA 6 a0z → ∀ v49 : Int32, v49 = v48 + x1z → ∃ n50 : Nat, wp_X6_advance_b59 t0 m9 mc ms post px n50 0 0 (qs_wI SA 6 a0z v49) a0z (0 : Int32) (0 : Int32))) ∧ (¬ v46 ≤ (5000 : Int32) → ((0 + 1 ≤ mc ∧ 0 + 6 ≤ ms) ∧ px "java/lang/IllegalStateException" SA))))) ∧ (¬ x1z ≤ (48 : Int32) → (wp_X6_advance_b11 t0 m9 mc ms post px 0 0 SA))))
set_option maxHeartbeats 4000000 in
set_option maxRecDepth 100000 in
theorem c_X6_advance (l : Launch) (hl9 : l.stackTraces = false) (g : qs_G) (sz : Nat) (SA : qs_S) (a0z : Nat) (x1z : Int32) {mc ms : Nat} {post : Int32 → qs_S → Prop} {px : String → qs_S → Prop} (h : wp_X6_advance g.2.2.2.2.2.2.1 g.2.2.2.2.2.2.2 mc ms post px SA a0z x1z) : vx_Met l yX6_advance wsX6_advance ({ frames := 6, cells := mc, slots := ms, locals := 90 } : Room) (qs_Pc g sz SA [.ref a0z, .int x1z]) (qs_Qi g (qs_F g SA sz) post) (qs_X g (qs_F g SA sz) px) mc ms (qs_F g SA sz) := by
  refine vx_ofW (cc := cX6_advance) (maxL := 5) (ret := (some .int)) (by decide +kernel) rfl ?_
  intro p e s m args below meth c s₁ B hml hnt hv
  obtain ⟨rfl, hsz, hG⟩ := qs_Gd.start hv
  subst hsz
  have hx := B.exec
  have hb := B.bytes
  have hr := B.returns
  have hts := atoms_spec (ws := wsX6_advance) B.pre
  have hown : s.vm.findClass RX6 = some m.cls := findClass_of_methodNamed B.named
  have hlk := B.notSynchronized
  have in0 : ∀ w ∈ u_ws RJx4a65c TJx4a65c 3, w ∈ wsX6_advance := fun w h => List.mem_cons_of_mem _ (List.mem_append_left _ (List.mem_append_left _ (List.mem_append_right _ (h))))
  have in1 : ∀ w ∈ u_ws RX0 TX0 8, w ∈ wsX6_advance := fun w h => List.mem_cons_of_mem _ (List.mem_append_left _ (List.mem_append_left _ (List.mem_append_left _ (List.mem_append_right _ (h)))))
  have in6 : ∀ w ∈ u_ws RX6 TX6 8, w ∈ wsX6_advance := fun w h => List.mem_cons_of_mem _ (List.mem_append_left _ (List.mem_append_left _ (List.mem_append_left _ (List.mem_append_left _ (List.mem_append_right _ (h))))))
  have hkc : 0 ≤ mc := Nat.zero_le _
  have hks : 0 ≤ ms := Nat.zero_le _
  have hmR : mc ≤ (headSpec wsX6_advance ({ frames := 6, cells := mc, slots := ms, locals := 90 } : Room)).room.cells := Nat.le_refl _
  have hsR : ms ≤ (headSpec wsX6_advance ({ frames := 6, cells := mc, slots := ms, locals := 90 } : Room)).room.slots := Nat.le_refl _
  have b11 : ∀ (S : qs_S) (H : Heap) (locs : List Loc) (k n : Nat) (ls : Array Slot), k ≤ mc → n ≤ ms → wp_X6_advance_b11 g.2.2.2.2.2.2.1 g.2.2.2.2.2.2.2 mc ms post px k n S → qs_Gd g (qs_F g SA s.heap.size) s S H locs → lv_has ls 5 [] → W p l e (headSpec wsX6_advance ({ frames := 6, cells := mc, slots := ms, locals := 90 } : Room)).room s m (([.ref a0z, .int x1z] : List Value)).toArray below meth c H locs k n (vx_MQ below (qs_Qi g (qs_F g SA s.heap.size) post) (qs_X g (qs_F g SA s.heap.size) px) (([.ref a0z, .int x1z] : List Value)).toArray s mc ms (qs_F g SA s.heap.size)) (F0 m 11 ls []) := by
    intro S H locs k n ls hkc hks h hG hl
    unfold wp_X6_advance_b11 at h
    obtain ⟨⟨hs1c, hs1s⟩, h⟩ := h
    exact qx_throwW (ik := 55) (is := 328) (ic := 59) (cls := "java/lang/IllegalArgumentException") hx hb hl9 hts hown (by decide +kernel) (by decide +kernel) (List.mem_of_getElem? (i := 3) rfl) (hts (.classLink RX6 55 "java/lang/IllegalArgumentException") (List.mem_of_getElem? (i := 1) rfl)) (hts (.initialized "java/lang/IllegalArgumentException") (List.mem_of_getElem? (i := 2) rfl)) (fun w h => List.mem_cons_of_mem _ (List.mem_append_left _ (List.mem_append_right _ (h)))) qt_bd_IAE qt_gd_IAE hG (hl.1.trans hml.symm) dX6_advance_11 dX6_advance_14 dX6_advance_15 dX6_advance_18 dX6_advance_21 hnt (Nat.le_of_ble_eq_true rfl) (Nat.le_of_ble_eq_true rfl) hmR hsR hlk h hs1c hs1s
  have b111 : ∀ (K59 : Nat → Nat → qs_S → Nat → Int32 → Int32 → Prop), (∀ (S : qs_S) (a0 : Nat) (x2 : Int32) (x3 : Int32) (H : Heap) (locs : List Loc) (k n : Nat) (ls : Array Slot), k ≤ mc → n ≤ ms → K59 k n S a0 x2 x3 → qs_Gd g (qs_F g SA s.heap.size) s S H locs → lv_has ls 5 [(0, .ref a0), (2, .int x2), (3, .int x3)] → W p l e (headSpec wsX6_advance ({ frames := 6, cells := mc, slots := ms, locals := 90 } : Room)).room s m (([.ref a0z, .int x1z] : List Value)).toArray below meth c H locs k n (vx_MQ below (qs_Qi g (qs_F g SA s.heap.size) post) (qs_X g (qs_F g SA s.heap.size) px) (([.ref a0z, .int x1z] : List Value)).toArray s mc ms (qs_F g SA s.heap.size)) (F0 m 59 ls [])) → ∀ (S : qs_S) (a0 : Nat) (x2 : Int32) (x3 : Int32) (H : Heap) (locs : List Loc) (k n : Nat) (ls : Array Slot), k ≤ mc → n ≤ ms → wp_X6_advance_b111 g.2.2.2.2.2.2.1 g.2.2.2.2.2.2.2 mc ms post px K59 k n S a0 x2 x3 → qs_Gd g (qs_F g SA s.heap.size) s S H locs → lv_has ls 5 [(0, .ref a0), (2, .int x2), (3, .int x3)] → W p l e (headSpec wsX6_advance ({ frames := 6, cells := mc, slots := ms, locals := 90 } : Room)).room s m (([.ref a0z, .int x1z] : List Value)).toArray below meth c H locs k n (vx_MQ below (qs_Qi g (qs_F g SA s.heap.size) post) (qs_X g (qs_F g SA s.heap.size) px) (([.ref a0z, .int x1z] : List Value)).toArray s mc ms (qs_F g SA s.heap.size)) (F0 m 111 ls []) := by
    intro K59 hK59 S a0 x2 x3 H locs k n ls hkc hks h hG hl
    unfold wp_X6_advance_b111 at h
    obtain ⟨v2, ev2⟩ : ∃ y : Int32, y = x3 + 1 := ⟨_, rfl⟩
    have h := h v2 ev2
    refine lv_iinc (v := v2) (lv' := [(3, .int v2), (0, .ref a0), (2, .int x2)]) hx hb dX6_advance_111 hl (k := 2) rfl (by rw [ev2]; rfl) (by decide) rfl (fun ls hl => ?_)
    refine lv_goto (tgt := 59) hx hb dX6_advance_114 (by decide) ?_
    exact hK59 S a0 x2 v2 _ _ k n ls hkc hks h hG (lv_sub hl [1, 2, 0] rfl)
  have c59 : ∀ (K59 : Nat → Nat → qs_S → Nat → Int32 → Int32 → Prop), (∀ (S : qs_S) (a0 : Nat) (x2 : Int32) (x3 : Int32) (H : Heap) (locs : List Loc) (k n : Nat) (ls : Array Slot), k ≤ mc → n ≤ ms → K59 k n S a0 x2 x3 → qs_Gd g (qs_F g SA s.heap.size) s S H locs → lv_has ls 5 [(0, .ref a0), (2, .int x2), (3, .int x3)] → W p l e (headSpec wsX6_advance ({ frames := 6, cells := mc, slots := ms, locals := 90 } : Room)).room s m (([.ref a0z, .int x1z] : List Value)).toArray below meth c H locs k n (vx_MQ below (qs_Qi g (qs_F g SA s.heap.size) post) (qs_X g (qs_F g SA s.heap.size) px) (([.ref a0z, .int x1z] : List Value)).toArray s mc ms (qs_F g SA s.heap.size)) (F0 m 59 ls [])) → ∀ (S : qs_S) (a0 : Nat) (x2 : Int32) (x3 : Int32) (H : Heap) (locs : List Loc) (k n : Nat) (ls : Array Slot), k ≤ mc → n ≤ ms → wp_X6_advance_c59 g.2.2.2.2.2.2.1 g.2.2.2.2.2.2.2 mc ms post px K59 k n S a0 x2 x3 → qs_Gd g (qs_F g SA s.heap.size) s S H locs → lv_has ls 5 [(0, .ref a0), (2, .int x2), (3, .int x3)] → W p l e (headSpec wsX6_advance ({ frames := 6, cells := mc, slots := ms, locals := 90 } : Room)).room s m (([.ref a0z, .int x1z] : List Value)).toArray below meth c H locs k n (vx_MQ below (qs_Qi g (qs_F g SA s.heap.size) post) (qs_X g (qs_F g SA s.heap.size) px) (([.ref a0z, .int x1z] : List Value)).toArray s mc ms (qs_F g SA s.heap.size)) (F0 m 59 ls []) := by
    intro K59 hK59 S a0 x2 x3 H locs k n ls hkc hks h hG hl
    unfold wp_X6_advance_c59 at h
    refine lv_iload_n hx hb dX6_advance_59 rfl (lv_at hl 2 rfl) ?_
    refine lv_aload_n hx hb dX6_advance_60 rfl (lv_at hl 0 rfl) ?_
    obtain ⟨⟨hL3, fK4⟩, h⟩ := h
    obtain ⟨q5, eq5, h⟩ := h
    refine qr_get (C := RX6) (T := TX6) (N := 8) (ci := 6) hx hb hts in6 hown hG hL3 fK4 (by decide) rfl 1 (by decide) rfl (hts (.fieldLink RX6 16 "QuayMesh" "allBoxes" "Ljava/util/ArrayList;") (List.mem_of_getElem? (i := 6) rfl)) (fun _ h9 => h9) (v := .ref q5) (qs_rf eq5) dX6_advance_61 ?_
    obtain ⟨⟨hL8, fK9⟩, h⟩ := h
    refine qc_i hG (va_runV (As := []) (rest := [.int x3]) ⟨hx, hb, hml, hown, hts⟩ (c_Jx4a65c_size_8abf5 l g _ S q5 h) (cwV 0 hts gX6_advance_Jx4a65c_size_8abf5 rfl rfl rfl (by decide +kernel) ⟨(Nat.le_of_ble_eq_true rfl), (Nat.le_of_ble_eq_true rfl)⟩) ⟨qs_Pc.blind _ _ _ _, hG.recv hL8 fK9 (by decide) rfl, hG.pre _⟩ rfl rfl hl.1 rfl (lv_room (Nat.le_of_ble_eq_true rfl)) dX6_advance_64 ⟨Nat.le_trans hkc hmR, Nat.le_trans hks hsR⟩) (fun v11 S10 H locs h hG => ?_)
    refine lv_icmp_ge (tgt := 117) hx hb dX6_advance_67 (by decide) (fun c12 => ?_) (fun c12 => ?_)
    · have h := h.1 c12
      refine lv_iload_n hx hb dX6_advance_117 rfl (lv_at hl 1 rfl) ?_
      refine vx_ret ?_
      exact qe_i hx hb hr hlk hG h hkc hks dX6_advance_118
    · have h := h.2 c12
      refine lv_aload_n hx hb dX6_advance_70 rfl (lv_at hl 0 rfl) ?_
      obtain ⟨⟨hL13, fK14⟩, h⟩ := h
      obtain ⟨q15, eq15, h⟩ := h
      refine qr_get (C := RX6) (T := TX6) (N := 8) (ci := 6) hx hb hts in6 hown hG hL13 fK14 (by decide) rfl 1 (by decide) rfl (hts (.fieldLink RX6 16 "QuayMesh" "allBoxes" "Ljava/util/ArrayList;") (List.mem_of_getElem? (i := 6) rfl)) (fun _ h9 => h9) (v := .ref q15) (qs_rf eq15) dX6_advance_71 ?_
      refine lv_iload_n hx hb dX6_advance_74 rfl (lv_at hl 2 rfl) ?_
      obtain ⟨⟨hL18, fK19⟩, h⟩ := h
      refine qc_q hG (va_runV (As := [.int x3]) (rest := []) ⟨hx, hb, hml, hown, hts⟩ (c_Jx4a65c_get_915e3 l g _ S10 q15 x3 h) (cwV 1 hts gX6_advance_Jx4a65c_get_915e3 rfl rfl rfl (by decide +kernel) ⟨(Nat.le_of_ble_eq_true rfl), (Nat.le_of_ble_eq_true rfl)⟩) ⟨qs_Pc.blind _ _ _ _, hG.recv hL18 fK19 (by decide) rfl, hG.pre _⟩ rfl rfl hl.1 rfl (lv_room (Nat.le_of_ble_eq_true rfl)) dX6_advance_75 ⟨Nat.le_trans hkc hmR, Nat.le_trans hks hsR⟩) (fun o21 S20 H locs h hG => ?_)
      obtain ⟨q22, rfl, h⟩ := h
      obtain ⟨⟨hL23, fK24⟩, h⟩ := h
      refine qr_cast (N := 8) hx hb hG hL23 fK24 (by decide) rfl hown (hts (.classLink RX6 92 "QuayMesh$Box") (List.mem_of_getElem? (i := 7) rfl)) dX6_advance_78 ?_
      refine lv_astore (lv' := [(4, .ref q22), (0, .ref a0), (2, .int x2), (3, .int x3)]) hx hb dX6_advance_81 hl (by decide) rfl (fun ls hl => ?_)
      refine lv_aload hx hb dX6_advance_83 (lv_at hl 0 rfl) ?_
      refine qc_i hG (va_runV (As := []) (rest := []) ⟨hx, hb, hml, hown, hts⟩ (c_X0_isBooked l g _ S20 q22 h) (cwV 0 hts gX6_advance_X0_isBooked rfl rfl rfl (by decide +kernel) ⟨(Nat.le_of_ble_eq_true rfl), (Nat.le_of_ble_eq_true rfl)⟩) ⟨qs_Pc.blind _ _ _ _, hG.recv hL23 fK24 (by decide) rfl, hG.pre _⟩ rfl rfl hl.1 rfl (lv_room (Nat.le_of_ble_eq_true rfl)) dX6_advance_85 ⟨Nat.le_trans hkc hmR, Nat.le_trans hks hsR⟩) (fun v28 S27 H locs h hG => ?_)
      refine lv_if_eq (tgt := 111) hx hb dX6_advance_88 (by decide) (fun c29 => ?_) (fun c29 => ?_)
      · have h := h.1 c29
        exact b111 K59 hK59 S27 a0 x2 x3 _ _ k n ls hkc hks h hG (lv_sub hl [1, 2, 3] rfl)
      · have h := h.2 c29
        refine lv_aload hx hb dX6_advance_91 (lv_at hl 0 rfl) ?_
        obtain ⟨⟨hL30, fK31⟩, h⟩ := h
        refine qr_get (C := RX0) (T := TX0) (N := 8) (ci := 1) hx hb hts in1 hown hG hL30 fK31 (by decide) rfl 7 (by decide) rfl (hts (.fieldLink RX6 323 "QuayMesh$Box" "bookedHour" "I") (List.mem_of_getElem? (i := 8) rfl)) (fun _ h9 => h9) (v := .int (qs_I S27 7 q22)) rfl dX6_advance_93 ?_
        refine lv_topi (fun v32 ev32 => ?_)
        have h := h v32 ev32
        refine lv_aload_n hx hb dX6_advance_96 rfl (lv_at hl 1 rfl) ?_
        obtain ⟨⟨hL33, fK34⟩, h⟩ := h
        refine qr_get (C := RX6) (T := TX6) (N := 8) (ci := 6) hx hb hts in6 hown hG hL33 fK34 (by decide) rfl 6 (by decide) rfl (hts (.fieldLink RX6 31 "QuayMesh" "now" "I") (List.mem_of_getElem? (i := 5) rfl)) (fun _ h9 => h9) (v := .int (qs_I S27 6 a0)) rfl dX6_advance_97 ?_
        refine lv_topi (fun v35 ev35 => ?_)
        have h := h v35 ev35
        refine lv_icmp_ge (tgt := 111) hx hb dX6_advance_100 (by decide) (fun c36 => ?_) (fun c36 => ?_)
        · have h := h.1 c36
          exact b111 K59 hK59 S27 a0 x2 x3 _ _ k n ls hkc hks h hG (lv_sub hl [1, 2, 3] rfl)
        · have h := h.2 c36
          refine lv_aload hx hb dX6_advance_103 (lv_at hl 0 rfl) ?_
          refine qc_v hG (va_runV (As := []) (rest := []) ⟨hx, hb, hml, hown, hts⟩ (c_X0_dropBooking l g _ S27 q22 h) (cwV 0 hts gX6_advance_X0_dropBooking rfl rfl rfl (by decide +kernel) ⟨(Nat.le_of_ble_eq_true rfl), (Nat.le_of_ble_eq_true rfl)⟩) ⟨qs_Pc.blind _ _ _ _, hG.recv hL30 fK31 (by decide) rfl, hG.pre _⟩ rfl rfl hl.1 rfl (lv_room (Nat.le_of_ble_eq_true rfl)) dX6_advance_105 ⟨Nat.le_trans hkc hmR, Nat.le_trans hks hsR⟩) (fun S39 H locs h hG => ?_)
          obtain ⟨v40, ev40⟩ : ∃ y : Int32, y = x2 + 1 := ⟨_, rfl⟩
          have h := h v40 ev40
          refine lv_iinc (v := v40) (lv' := [(2, .int v40), (4, .ref q22), (0, .ref a0), (3, .int x3)]) hx hb dX6_advance_108 hl (k := 2) rfl (by rw [ev40]; rfl) (by decide) rfl (fun ls hl => ?_)
          exact b111 K59 hK59 S39 a0 v40 x3 _ _ k n ls hkc hks h hG (lv_sub hl [2, 0, 3] rfl)
  have b59 : ∀ n9 : Nat, ∀ (S : qs_S) (a0 : Nat) (x2 : Int32) (x3 : Int32) (H : Heap) (locs : List Loc) (k n : Nat) (ls : Array Slot), k ≤ mc → n ≤ ms → wp_X6_advance_b59 g.2.2.2.2.2.2.1 g.2.2.2.2.2.2.2 mc ms post px n9 k n S a0 x2 x3 → qs_Gd g (qs_F g SA s.heap.size) s S H locs → lv_has ls 5 [(0, .ref a0), (2, .int x2), (3, .int x3)] → W p l e (headSpec wsX6_advance ({ frames := 6, cells := mc, slots := ms, locals := 90 } : Room)).room s m (([.ref a0z, .int x1z] : List Value)).toArray below meth c H locs k n (vx_MQ below (qs_Qi g (qs_F g SA s.heap.size) post) (qs_X g (qs_F g SA s.heap.size) px) (([.ref a0z, .int x1z] : List Value)).toArray s mc ms (qs_F g SA s.heap.size)) (F0 m 59 ls []) := by
    intro n9
    induction n9 with
    | zero =>
      intro S a0 x2 x3 H locs k n ls hkc hks h hG hl
      exact False.elim h
    | succ n9 ih => exact c59 _ ih
  have hl := lv_entry ([.ref a0z, .int x1z]) (n := 5) (Nat.le_of_ble_eq_true rfl)
  rw [lg_entry_eq]
  generalize (lg_sl ([.ref a0z, .int x1z]) ++ List.replicate (5 - (lg_sl ([.ref a0z, .int x1z])).length) Slot.unset).toArray = ls at hl ⊢
  have hl : lv_has ls 5 [(0, .ref a0z), (1, .int x1z)] := hl
  unfold wp_X6_advance at h
  refine lv_iload_n hx hb dX6_advance_0 rfl (lv_at hl 1 rfl) ?_
  refine lv_iconst (v := (1 : Int32)) hx hb dX6_advance_1 (by decide +kernel) ?_
  refine lv_icmp_lt (tgt := 11) hx hb dX6_advance_2 (by decide) (fun c41 => ?_) (fun c41 => ?_)
  · have h := h.1 c41
    exact b11 SA _ _ 0 0 ls hkc hks h hG (lv_sub hl [] rfl)
  · have h := h.2 c41
    refine lv_iload_n hx hb dX6_advance_5 rfl (lv_at hl 1 rfl) ?_
    refine lv_bipush (v := (48 : Int32)) hx hb dX6_advance_6 (by decide +kernel) ?_
    refine lv_icmp_le (tgt := 22) hx hb dX6_advance_8 (by decide) (fun c42 => ?_) (fun c42 => ?_)
    · have h := h.1 c42
      refine lv_aload_n hx hb dX6_advance_22 rfl (lv_at hl 0 rfl) ?_
      obtain ⟨⟨hL43, fK44⟩, h⟩ := h
      refine qr_get (C := RX6) (T := TX6) (N := 8) (ci := 6) hx hb hts in6 hown hG hL43 fK44 (by decide) rfl 6 (by decide) rfl (hts (.fieldLink RX6 31 "QuayMesh" "now" "I") (List.mem_of_getElem? (i := 5) rfl)) (fun _ h9 => h9) (v := .int (qs_I SA 6 a0z)) rfl dX6_advance_23 ?_
      refine lv_topi (fun v45 ev45 => ?_)
      have h := h v45 ev45
      refine lv_iload_n hx hb dX6_advance_26 rfl (lv_at hl 1 rfl) ?_
      refine lv_iadd hx hb dX6_advance_27 ?_
      refine lv_topi (fun v46 ev46 => ?_)
      have h := h v46 ev46
      refine lv_sipush (v := (5000 : Int32)) hx hb dX6_advance_28 (by decide +kernel) ?_
      refine lv_icmp_le (tgt := 45) hx hb dX6_advance_31 (by decide) (fun c47 => ?_) (fun c47 => ?_)
      · have h := h.1 c47
        refine lv_aload_n hx hb dX6_advance_45 rfl (lv_at hl 0 rfl) ?_
        refine lv_dup hx hb dX6_advance_46 rfl ?_
        refine qr_get (C := RX6) (T := TX6) (N := 8) (ci := 6) hx hb hts in6 hown hG hL43 fK44 (by decide) rfl 6 (by decide) rfl (hts (.fieldLink RX6 31 "QuayMesh" "now" "I") (List.mem_of_getElem? (i := 5) rfl)) (fun _ h9 => h9) (v := .int (qs_I SA 6 a0z)) rfl dX6_advance_47 ?_
        refine lv_topi (fun v48 ev48 => ?_)
        have h := h v48 ev48
        refine lv_iload_n hx hb dX6_advance_50 rfl (lv_at hl 1 rfl) ?_
        refine lv_iadd hx hb dX6_advance_51 ?_
        refine lv_topi (fun v49 ev49 => ?_)
        have h := h v49 ev49
        refine qr_putI (C := RX6) (T := TX6) (N := 8) (ci := 6) hx hb hts in6 tyX6 tyX6_ok nmX6 hown hG hL43 fK44 (by decide) rfl 6 (by decide) rfl (hts (.fieldLink RX6 31 "QuayMesh" "now" "I") (List.mem_of_getElem? (i := 5) rfl)) (fun _ h9 => h9) rfl (x := v49) (tyX6_ok 6 (by decide)) rfl rfl dX6_advance_52 (fun H locs hG => ?_)
        refine lv_iconst (v := (0 : Int32)) hx hb dX6_advance_55 (by decide +kernel) ?_
        refine lv_istore_n (lv' := [(2, .int (0 : Int32)), (0, .ref a0z), (1, .int x1z)]) hx hb dX6_advance_56 rfl hl (by decide) rfl (fun ls hl => ?_)
        refine lv_iconst (v := (0 : Int32)) hx hb dX6_advance_57 (by decide +kernel) ?_
        refine lv_istore_n (lv' := [(3, .int (0 : Int32)), (2, .int (0 : Int32)), (0, .ref a0z), (1, .int x1z)]) hx hb dX6_advance_58 rfl hl (by decide) rfl (fun ls hl => ?_)
        obtain ⟨n50, h⟩ := h
        exact b59 n50 (qs_wI SA 6 a0z v49) a0z (0 : Int32) (0 : Int32) _ _ 0 0 ls hkc hks h hG (lv_sub hl [2, 1, 0] rfl)
      · have h := h.2 c47
        obtain ⟨⟨hs51c, hs51s⟩, h⟩ := h
        exact qx_throwW (ik := 70) (is := 330) (ic := 74) (cls := "java/lang/IllegalStateException") hx hb hl9 hts hown (by decide +kernel) (by decide +kernel) (List.mem_of_getElem? (i := 14) rfl) (hts (.classLink RX6 70 "java/lang/IllegalStateException") (List.mem_of_getElem? (i := 3) rfl)) (hts (.initialized "java/lang/IllegalStateException") (List.mem_of_getElem? (i := 4) rfl)) (fun w h => List.mem_cons_of_mem _ (List.mem_append_right _ (h))) qt_bd_ISE qt_gd_ISE hG (hl.1.trans hml.symm) dX6_advance_34 dX6_advance_37 dX6_advance_38 dX6_advance_41 dX6_advance_44 hnt (Nat.le_of_ble_eq_true rfl) (Nat.le_of_ble_eq_true rfl) hmR hsR hlk h hs51c hs51s
    · have h := h.2 c42
      exact b11 SA _ _ 0 0 ls hkc hks h hG (lv_sub hl [] rfl)
def wp_X6_hour (t0 m9 : Nat) (post : Int32 → qs_S → Prop) (SA : qs_S) (a0z : Nat) : Prop := (a0z ∈ qs_L SA ∧ qs_K SA a0z = 6) ∧ (∀ v3 : Int32, v3 = qs_I SA 6 a0z → post v3 SA)
set_option maxHeartbeats 4000000 in
set_option maxRecDepth 100000 in
theorem c_X6_hour (l : Launch) (g : qs_G) (sz : Nat) (SA : qs_S) (a0z : Nat) {post : Int32 → qs_S → Prop} (h : wp_X6_hour g.2.2.2.2.2.2.1 g.2.2.2.2.2.2.2 post SA a0z) : Met l yX6_hour wsX6_hour ({ frames := 0, cells := 0, slots := 0, locals := 0 } : Room) (qs_Pc g sz SA [.ref a0z]) (qs_Qi g (qs_F g SA sz) post) 0 0 (qs_F g SA sz) := by
  refine Met.ofW (cc := cX6_hour) (maxL := 1) (ret := (some .int)) (by decide +kernel) rfl ?_
  intro p e s m args below meth c s₁ B hml hv
  obtain ⟨rfl, hsz, hG⟩ := qs_Gd.start hv
  subst hsz
  have hx := B.exec
  have hb := B.bytes
  have hr := B.returns
  have hts := atoms_spec (ws := wsX6_hour) B.pre
  have hown : s.vm.findClass RX6 = some m.cls := findClass_of_methodNamed B.named
  have hlk := B.notSynchronized
  have in6 : ∀ w ∈ u_ws RX6 TX6 8, w ∈ wsX6_hour := fun w h => List.mem_cons_of_mem _ (List.mem_append_right _ (h))
  have hl := lv_entry ([.ref a0z]) (n := 1) (Nat.le_of_ble_eq_true rfl)
  rw [lg_entry_eq]
  generalize (lg_sl ([.ref a0z]) ++ List.replicate (1 - (lg_sl ([.ref a0z])).length) Slot.unset).toArray = ls at hl ⊢
  have hl : lv_has ls 1 [(0, .ref a0z)] := hl
  unfold wp_X6_hour at h
  refine lv_aload_n hx hb dX6_hour_0 rfl (lv_at hl 0 rfl) ?_
  obtain ⟨⟨hL1, fK2⟩, h⟩ := h
  refine qr_get (C := RX6) (T := TX6) (N := 8) (ci := 6) hx hb hts in6 hown hG hL1 fK2 (by decide) rfl 6 (by decide) rfl (hts (.fieldLink RX6 31 "QuayMesh" "now" "I") (List.mem_of_getElem? (i := 1) rfl)) (fun _ h9 => h9) (v := .int (qs_I SA 6 a0z)) rfl dX6_hour_1 ?_
  refine lv_topi (fun v3 ev3 => ?_)
  have h := h v3 ev3
  exact qe_i hx hb hr hlk hG h (Nat.le_refl _) (Nat.le_refl _) dX6_hour_4
def wp_X6_boxes (t0 m9 : Nat) (post : Int32 → qs_S → Prop) (SA : qs_S) (a0z : Nat) : Prop := (a0z ∈ qs_L SA ∧ qs_K SA a0z = 6) ∧ (∃ q3 : Nat, qs_R SA 1 a0z = some q3 ∧ ((q3 ∈ qs_L SA ∧ qs_K SA q3 = 0) ∧ (wp_Jx4a65c_size_8abf5 t0 m9 (fun (v9 : Int32) (S8 : qs_S) => post v9 S8) SA q3)))
set_option maxHeartbeats 4000000 in
set_option maxRecDepth 100000 in
theorem c_X6_boxes (l : Launch) (g : qs_G) (sz : Nat) (SA : qs_S) (a0z : Nat) {post : Int32 → qs_S → Prop} (h : wp_X6_boxes g.2.2.2.2.2.2.1 g.2.2.2.2.2.2.2 post SA a0z) : Met l yX6_boxes wsX6_boxes ({ frames := 1, cells := 0, slots := 0, locals := 20 } : Room) (qs_Pc g sz SA [.ref a0z]) (qs_Qi g (qs_F g SA sz) post) 0 0 (qs_F g SA sz) := by
  refine Met.ofW (cc := cX6_boxes) (maxL := 1) (ret := (some .int)) (by decide +kernel) rfl ?_
  intro p e s m args below meth c s₁ B hml hv
  obtain ⟨rfl, hsz, hG⟩ := qs_Gd.start hv
  subst hsz
  have hx := B.exec
  have hb := B.bytes
  have hr := B.returns
  have hts := atoms_spec (ws := wsX6_boxes) B.pre
  have hown : s.vm.findClass RX6 = some m.cls := findClass_of_methodNamed B.named
  have hlk := B.notSynchronized
  have in0 : ∀ w ∈ u_ws RJx4a65c TJx4a65c 3, w ∈ wsX6_boxes := fun w h => List.mem_cons_of_mem _ (List.mem_append_right _ (h))
  have in6 : ∀ w ∈ u_ws RX6 TX6 8, w ∈ wsX6_boxes := fun w h => List.mem_cons_of_mem _ (List.mem_append_left _ (List.mem_append_right _ (h)))
  have hl := lv_entry ([.ref a0z]) (n := 1) (Nat.le_of_ble_eq_true rfl)
  rw [lg_entry_eq]
  generalize (lg_sl ([.ref a0z]) ++ List.replicate (1 - (lg_sl ([.ref a0z])).length) Slot.unset).toArray = ls at hl ⊢
  have hl : lv_has ls 1 [(0, .ref a0z)] := hl
  unfold wp_X6_boxes at h
  refine lv_aload_n hx hb dX6_boxes_0 rfl (lv_at hl 0 rfl) ?_
  obtain ⟨⟨hL1, fK2⟩, h⟩ := h
  obtain ⟨q3, eq3, h⟩ := h
  refine qr_get (C := RX6) (T := TX6) (N := 8) (ci := 6) hx hb hts in6 hown hG hL1 fK2 (by decide) rfl 1 (by decide) rfl (hts (.fieldLink RX6 16 "QuayMesh" "allBoxes" "Ljava/util/ArrayList;") (List.mem_of_getElem? (i := 1) rfl)) (fun _ h9 => h9) (v := .ref q3) (qs_rf eq3) dX6_boxes_1 ?_
  obtain ⟨⟨hL6, fK7⟩, h⟩ := h
  refine qc_i hG (va_runV (As := []) (rest := []) ⟨hx, hb, hml, hown, hts⟩ (c_Jx4a65c_size_8abf5 l g _ SA q3 h) (cwV 0 hts gX6_boxes_Jx4a65c_size_8abf5 rfl rfl rfl (by decide +kernel) ⟨(Nat.le_of_ble_eq_true rfl), (Nat.le_of_ble_eq_true rfl)⟩) ⟨qs_Pc.blind _ _ _ _, hG.recv hL6 fK7 (by decide) rfl, hG.pre _⟩ rfl rfl hl.1 rfl (lv_room (Nat.le_of_ble_eq_true rfl)) dX6_boxes_4 ⟨Nat.zero_le _, Nat.zero_le _⟩) (fun v9 S8 H locs h hG => ?_)
  exact qe_i hx hb hr hlk hG h (Nat.le_refl _) (Nat.le_refl _) dX6_boxes_7
def wp_X6_whereIs (t0 m9 : Nat) (mc ms : Nat) (post : Int32 → qs_S → Prop) (px : String → qs_S → Prop) (SA : qs_S) (a0z : Nat) (x1z : Int32) : Prop := (a0z ∈ qs_L SA ∧ qs_K SA a0z = 6) ∧ (∃ mck1 msk1 : Nat, (0 + mck1 ≤ mc ∧ 0 + msk1 ≤ ms) ∧ (wp_X6_boxNumbered t0 m9 mck1 msk1 (fun (o6 : Option Nat) (S5 : qs_S) => ∃ q7 : Nat, o6 = some q7 ∧ ((q7 ∈ qs_L S5 ∧ qs_K S5 q7 = 1) ∧ (∀ v10 : Int32, v10 = qs_I S5 2 q7 → (¬ v10 = (3 : Int32) → (∀ v12 : Int32, v12 = qs_I S5 2 q7 → ∀ v13 : Int32, v13 = (100 : Int32) * v12 → ∀ v14 : Int32, v14 = qs_I S5 3 q7 → ∀ v15 : Int32, v15 = v13 + v14 → post v15 S5)) ∧ (v10 = (3 : Int32) → (∀ v16 : Int32, v16 = qs_I S5 3 q7 → ∀ v17 : Int32, v17 = (10 : Int32) * v16 → ∀ v18 : Int32, v18 = (300 : Int32) + v17 → ∀ v19 : Int32, v19 = qs_I S5 4 q7 → ∀ v20 : Int32, v20 = v18 + v19 → post v20 S5))))) px SA a0z x1z))
set_option maxHeartbeats 4000000 in
set_option maxRecDepth 100000 in
theorem c_X6_whereIs (l : Launch) (hl9 : l.stackTraces = false) (g : qs_G) (sz : Nat) (SA : qs_S) (a0z : Nat) (x1z : Int32) {mc ms : Nat} {post : Int32 → qs_S → Prop} {px : String → qs_S → Prop} (h : wp_X6_whereIs g.2.2.2.2.2.2.1 g.2.2.2.2.2.2.2 mc ms post px SA a0z x1z) : vx_Met l yX6_whereIs wsX6_whereIs ({ frames := 8, cells := mc, slots := ms, locals := 132 } : Room) (qs_Pc g sz SA [.ref a0z, .int x1z]) (qs_Qi g (qs_F g SA sz) post) (qs_X g (qs_F g SA sz) px) mc ms (qs_F g SA sz) := by
  refine vx_ofW (cc := cX6_whereIs) (maxL := 3) (ret := (some .int)) (by decide +kernel) rfl ?_
  intro p e s m args below meth c s₁ B hml hnt hv
  obtain ⟨rfl, hsz, hG⟩ := qs_Gd.start hv
  subst hsz
  have hx := B.exec
  have hb := B.bytes
  have hr := B.returns
  have hts := atoms_spec (ws := wsX6_whereIs) B.pre
  have hown : s.vm.findClass RX6 = some m.cls := findClass_of_methodNamed B.named
  have hlk := B.notSynchronized
  have in0 : ∀ w ∈ u_ws RJx4a65c TJx4a65c 3, w ∈ wsX6_whereIs := fun w h => List.mem_cons_of_mem _ (List.mem_append_left _ (List.mem_append_right _ (h)))
  have in1 : ∀ w ∈ u_ws RX0 TX0 8, w ∈ wsX6_whereIs := fun w h => List.mem_cons_of_mem _ (List.mem_append_left _ (List.mem_append_left _ (List.mem_append_left _ (List.mem_append_right _ (h)))))
  have in6 : ∀ w ∈ u_ws RX6 TX6 8, w ∈ wsX6_whereIs := fun w h => List.mem_cons_of_mem _ (List.mem_append_left _ (List.mem_append_left _ (List.mem_append_right _ (h))))
  have hkc : 0 ≤ mc := Nat.zero_le _
  have hks : 0 ≤ ms := Nat.zero_le _
  have hmR : mc ≤ (headSpec wsX6_whereIs ({ frames := 8, cells := mc, slots := ms, locals := 132 } : Room)).room.cells := Nat.le_refl _
  have hsR : ms ≤ (headSpec wsX6_whereIs ({ frames := 8, cells := mc, slots := ms, locals := 132 } : Room)).room.slots := Nat.le_refl _
  have hl := lv_entry ([.ref a0z, .int x1z]) (n := 3) (Nat.le_of_ble_eq_true rfl)
  rw [lg_entry_eq]
  generalize (lg_sl ([.ref a0z, .int x1z]) ++ List.replicate (3 - (lg_sl ([.ref a0z, .int x1z])).length) Slot.unset).toArray = ls at hl ⊢
  have hl : lv_has ls 3 [(0, .ref a0z), (1, .int x1z)] := hl
  unfold wp_X6_whereIs at h
  refine lv_aload_n hx hb dX6_whereIs_0 rfl (lv_at hl 0 rfl) ?_
  refine lv_iload_n hx hb dX6_whereIs_1 rfl (lv_at hl 1 rfl) ?_
  obtain ⟨⟨hL3, fK4⟩, h⟩ := h
  obtain ⟨mck1, msk1, ⟨hs2c, hs2s⟩, h⟩ := h
  refine qx_q hG (vx_runV (As := [.int x1z]) (rest := []) ⟨hx, hb, hml, hown, hts⟩ (c_X6_boxNumbered l hl9 g _ SA a0z x1z h) (cwV 1 hts gX6_whereIs_X6_boxNumbered rfl rfl rfl (by decide +kernel) ⟨(Nat.le_of_ble_eq_true rfl), (Nat.le_of_ble_eq_true rfl)⟩) ⟨qs_Pc.blind _ _ _ _, hG.recv hL3 fK4 (by decide) rfl, hG.pre _⟩ rfl rfl hl.1 rfl (lv_room (Nat.le_of_ble_eq_true rfl)) dX6_whereIs_2 ⟨Nat.le_trans hs2c hmR, Nat.le_trans hs2s hsR⟩) (fun E S1 H locs ce q9 hp hG h1 h2 h3 => qx_out hnt hlk hG hp h1 h2 h3 hs2c hs2s) (fun o6 S5 H locs h hG => ?_)
  have hkc := hs2c
  have hks := hs2s
  obtain ⟨q7, rfl, h⟩ := h
  refine lv_astore_n (lv' := [(2, .ref q7), (0, .ref a0z), (1, .int x1z)]) hx hb dX6_whereIs_5 rfl hl (by decide) rfl (fun ls hl => ?_)
  refine lv_aload_n hx hb dX6_whereIs_6 rfl (lv_at hl 0 rfl) ?_
  obtain ⟨⟨hL8, fK9⟩, h⟩ := h
  refine qr_get (C := RX0) (T := TX0) (N := 8) (ci := 1) hx hb hts in1 hown hG hL8 fK9 (by decide) rfl 2 (by decide) rfl (hts (.fieldLink RX6 105 "QuayMesh$Box" "where" "I") (List.mem_of_getElem? (i := 1) rfl)) (fun _ h9 => h9) (v := .int (qs_I S5 2 q7)) rfl dX6_whereIs_7 ?_
  refine lv_topi (fun v10 ev10 => ?_)
  have h := h v10 ev10
  refine lv_iconst (v := (3 : Int32)) hx hb dX6_whereIs_10 (by decide +kernel) ?_
  refine lv_icmp_ne (tgt := 31) hx hb dX6_whereIs_11 (by decide) (fun c11 => ?_) (fun c11 => ?_)
  · have h := h.1 c11
    refine lv_bipush (v := (100 : Int32)) hx hb dX6_whereIs_31 (by decide +kernel) ?_
    refine lv_aload_n hx hb dX6_whereIs_33 rfl (lv_at hl 0 rfl) ?_
    refine qr_get (C := RX0) (T := TX0) (N := 8) (ci := 1) hx hb hts in1 hown hG hL8 fK9 (by decide) rfl 2 (by decide) rfl (hts (.fieldLink RX6 105 "QuayMesh$Box" "where" "I") (List.mem_of_getElem? (i := 1) rfl)) (fun _ h9 => h9) (v := .int (qs_I S5 2 q7)) rfl dX6_whereIs_34 ?_
    refine lv_topi (fun v12 ev12 => ?_)
    have h := h v12 ev12
    refine lv_imul hx hb dX6_whereIs_37 ?_
    refine lv_topi (fun v13 ev13 => ?_)
    have h := h v13 ev13
    refine lv_aload_n hx hb dX6_whereIs_38 rfl (lv_at hl 0 rfl) ?_
    refine qr_get (C := RX0) (T := TX0) (N := 8) (ci := 1) hx hb hts in1 hown hG hL8 fK9 (by decide) rfl 3 (by decide) rfl (hts (.fieldLink RX6 284 "QuayMesh$Box" "spot" "I") (List.mem_of_getElem? (i := 2) rfl)) (fun _ h9 => h9) (v := .int (qs_I S5 3 q7)) rfl dX6_whereIs_39 ?_
    refine lv_topi (fun v14 ev14 => ?_)
    have h := h v14 ev14
    refine lv_iadd hx hb dX6_whereIs_42 ?_
    refine lv_topi (fun v15 ev15 => ?_)
    have h := h v15 ev15
    refine vx_ret ?_
    exact qe_i hx hb hr hlk hG h hkc hks dX6_whereIs_43
  · have h := h.2 c11
    refine lv_sipush (v := (300 : Int32)) hx hb dX6_whereIs_14 (by decide +kernel) ?_
    refine lv_bipush (v := (10 : Int32)) hx hb dX6_whereIs_17 (by decide +kernel) ?_
    refine lv_aload_n hx hb dX6_whereIs_19 rfl (lv_at hl 0 rfl) ?_
    refine qr_get (C := RX0) (T := TX0) (N := 8) (ci := 1) hx hb hts in1 hown hG hL8 fK9 (by decide) rfl 3 (by decide) rfl (hts (.fieldLink RX6 284 "QuayMesh$Box" "spot" "I") (List.mem_of_getElem? (i := 2) rfl)) (fun _ h9 => h9) (v := .int (qs_I S5 3 q7)) rfl dX6_whereIs_20 ?_
    refine lv_topi (fun v16 ev16 => ?_)
    have h := h v16 ev16
    refine lv_imul hx hb dX6_whereIs_23 ?_
    refine lv_topi (fun v17 ev17 => ?_)
    have h := h v17 ev17
    refine lv_iadd hx hb dX6_whereIs_24 ?_
    refine lv_topi (fun v18 ev18 => ?_)
    have h := h v18 ev18
    refine lv_aload_n hx hb dX6_whereIs_25 rfl (lv_at hl 0 rfl) ?_
    refine qr_get (C := RX0) (T := TX0) (N := 8) (ci := 1) hx hb hts in1 hown hG hL8 fK9 (by decide) rfl 4 (by decide) rfl (hts (.fieldLink RX6 281 "QuayMesh$Box" "level" "I") (List.mem_of_getElem? (i := 3) rfl)) (fun _ h9 => h9) (v := .int (qs_I S5 4 q7)) rfl dX6_whereIs_26 ?_
    refine lv_topi (fun v19 ev19 => ?_)
    have h := h v19 ev19
    refine lv_iadd hx hb dX6_whereIs_29 ?_
    refine lv_topi (fun v20 ev20 => ?_)
    have h := h v20 ev20
    refine vx_ret ?_
    exact qe_i hx hb hr hlk hG h hkc hks dX6_whereIs_30
def wp_X6_whereByLog_b68 (t0 m9 : Nat) (mc ms : Nat) (post : Int32 → qs_S → Prop) (px : String → qs_S → Prop) (k n : Nat) (S : qs_S) (s0 : Int32) : Prop := post s0 S
def wp_X6_whereByLog (t0 m9 : Nat) (mc ms : Nat) (post : Int32 → qs_S → Prop) (px : String → qs_S → Prop) (SA : qs_S) (a0z : Nat) (x1z : Int32) : Prop := (a0z ∈ qs_L SA ∧ qs_K SA a0z = 6) ∧ (∃ mck1 msk1 : Nat, (0 + mck1 ≤ mc ∧ 0 + msk1 ≤ ms) ∧ (wp_X6_boxNumbered t0 m9 mck1 msk1 (fun (o6 : Option Nat) (S5 : qs_S) => ∃ q7 : Nat, o6 = some q7 ∧ ((a0z ∈ qs_L S5 ∧ qs_K S5 a0z = 6) ∧ (wp_X6_lastLoggedMoveOf t0 m9 (fun (o13 : Option Nat) (S12 : qs_S) => (o13 = none → ((q7 ∈ qs_L S12 ∧ qs_K S12 q7 = 1) ∧ (∀ v17 : Int32, v17 = qs_I S12 1 q7 → ∀ v18 : Int32, v18 = (0 : Int32) + v17 → post v18 S12))) ∧ (∀ q14 : Nat, o13 = some q14 → ((q14 ∈ qs_L S12 ∧ qs_K S12 q14 = 3) ∧ (∀ v21 : Int32, v21 = qs_I S12 1 q14 → (¬ v21 = 0 → (∀ v23 : Int32, v23 = qs_I S12 1 q14 → (¬ v23 = (1 : Int32) → (∀ v25 : Int32, v25 = qs_I S12 3 q14 → ∀ v26 : Int32, v26 = (400 : Int32) + v25 → wp_X6_whereByLog_b68 t0 m9 mc ms post px (0 + mck1) (0 + msk1) S12 v26)) ∧ (v23 = (1 : Int32) → (∀ v27 : Int32, v27 = qs_I S12 3 q14 → ∀ v28 : Int32, v28 = (10 : Int32) * v27 → ∀ v29 : Int32, v29 = (300 : Int32) + v28 → wp_X6_whereByLog_b68 t0 m9 mc ms post px (0 + mck1) (0 + msk1) S12 v29)))) ∧ (v21 = 0 → ((q7 ∈ qs_L S12 ∧ qs_K S12 q7 = 1) ∧ (∀ v32 : Int32, v32 = qs_I S12 1 q7 → ∀ v33 : Int32, v33 = (100 : Int32) + v32 → post v33 S12))))))) S5 a0z q7))) px SA a0z x1z))
set_option maxHeartbeats 4000000 in
set_option maxRecDepth 100000 in
theorem c_X6_whereByLog (l : Launch) (hl9 : l.stackTraces = false) (g : qs_G) (sz : Nat) (SA : qs_S) (a0z : Nat) (x1z : Int32) {mc ms : Nat} {post : Int32 → qs_S → Prop} {px : String → qs_S → Prop} (h : wp_X6_whereByLog g.2.2.2.2.2.2.1 g.2.2.2.2.2.2.2 mc ms post px SA a0z x1z) : vx_Met l yX6_whereByLog wsX6_whereByLog ({ frames := 8, cells := mc, slots := ms, locals := 132 } : Room) (qs_Pc g sz SA [.ref a0z, .int x1z]) (qs_Qi g (qs_F g SA sz) post) (qs_X g (qs_F g SA sz) px) mc ms (qs_F g SA sz) := by
  refine vx_ofW (cc := cX6_whereByLog) (maxL := 4) (ret := (some .int)) (by decide +kernel) rfl ?_
  intro p e s m args below meth c s₁ B hml hnt hv
  obtain ⟨rfl, hsz, hG⟩ := qs_Gd.start hv
  subst hsz
  have hx := B.exec
  have hb := B.bytes
  have hr := B.returns
  have hts := atoms_spec (ws := wsX6_whereByLog) B.pre
  have hown : s.vm.findClass RX6 = some m.cls := findClass_of_methodNamed B.named
  have hlk := B.notSynchronized
  have in0 : ∀ w ∈ u_ws RJx4a65c TJx4a65c 3, w ∈ wsX6_whereByLog := fun w h => List.mem_cons_of_mem _ (List.mem_append_left _ (List.mem_append_right _ (h)))
  have in1 : ∀ w ∈ u_ws RX0 TX0 8, w ∈ wsX6_whereByLog := fun w h => List.mem_cons_of_mem _ (List.mem_append_left _ (List.mem_append_left _ (List.mem_append_left _ (List.mem_append_left _ (List.mem_append_right _ (h))))))
  have in3 : ∀ w ∈ u_ws RX2 TX2 7, w ∈ wsX6_whereByLog := fun w h => List.mem_cons_of_mem _ (List.mem_append_left _ (List.mem_append_left _ (List.mem_append_left _ (List.mem_append_right _ (h)))))
  have in6 : ∀ w ∈ u_ws RX6 TX6 8, w ∈ wsX6_whereByLog := fun w h => List.mem_cons_of_mem _ (List.mem_append_left _ (List.mem_append_left _ (List.mem_append_right _ (h))))
  have hkc : 0 ≤ mc := Nat.zero_le _
  have hks : 0 ≤ ms := Nat.zero_le _
  have hmR : mc ≤ (headSpec wsX6_whereByLog ({ frames := 8, cells := mc, slots := ms, locals := 132 } : Room)).room.cells := Nat.le_refl _
  have hsR : ms ≤ (headSpec wsX6_whereByLog ({ frames := 8, cells := mc, slots := ms, locals := 132 } : Room)).room.slots := Nat.le_refl _
  have b68 : ∀ (S : qs_S) (s0 : Int32) (H : Heap) (locs : List Loc) (k n : Nat) (ls : Array Slot), k ≤ mc → n ≤ ms → wp_X6_whereByLog_b68 g.2.2.2.2.2.2.1 g.2.2.2.2.2.2.2 mc ms post px k n S s0 → qs_Gd g (qs_F g SA s.heap.size) s S H locs → lv_has ls 4 [] → W p l e (headSpec wsX6_whereByLog ({ frames := 8, cells := mc, slots := ms, locals := 132 } : Room)).room s m (([.ref a0z, .int x1z] : List Value)).toArray below meth c H locs k n (vx_MQ below (qs_Qi g (qs_F g SA s.heap.size) post) (qs_X g (qs_F g SA s.heap.size) px) (([.ref a0z, .int x1z] : List Value)).toArray s mc ms (qs_F g SA s.heap.size)) (F0 m 68 ls [.int s0]) := by
    intro S s0 H locs k n ls hkc hks h hG hl
    unfold wp_X6_whereByLog_b68 at h
    refine vx_ret ?_
    exact qe_i hx hb hr hlk hG h hkc hks dX6_whereByLog_68
  have hl := lv_entry ([.ref a0z, .int x1z]) (n := 4) (Nat.le_of_ble_eq_true rfl)
  rw [lg_entry_eq]
  generalize (lg_sl ([.ref a0z, .int x1z]) ++ List.replicate (4 - (lg_sl ([.ref a0z, .int x1z])).length) Slot.unset).toArray = ls at hl ⊢
  have hl : lv_has ls 4 [(0, .ref a0z), (1, .int x1z)] := hl
  unfold wp_X6_whereByLog at h
  refine lv_aload_n hx hb dX6_whereByLog_0 rfl (lv_at hl 0 rfl) ?_
  refine lv_iload_n hx hb dX6_whereByLog_1 rfl (lv_at hl 1 rfl) ?_
  obtain ⟨⟨hL3, fK4⟩, h⟩ := h
  obtain ⟨mck1, msk1, ⟨hs2c, hs2s⟩, h⟩ := h
  refine qx_q hG (vx_runV (As := [.int x1z]) (rest := []) ⟨hx, hb, hml, hown, hts⟩ (c_X6_boxNumbered l hl9 g _ SA a0z x1z h) (cwV 1 hts gX6_whereByLog_X6_boxNumbered rfl rfl rfl (by decide +kernel) ⟨(Nat.le_of_ble_eq_true rfl), (Nat.le_of_ble_eq_true rfl)⟩) ⟨qs_Pc.blind _ _ _ _, hG.recv hL3 fK4 (by decide) rfl, hG.pre _⟩ rfl rfl hl.1 rfl (lv_room (Nat.le_of_ble_eq_true rfl)) dX6_whereByLog_2 ⟨Nat.le_trans hs2c hmR, Nat.le_trans hs2s hsR⟩) (fun E S1 H locs ce q9 hp hG h1 h2 h3 => qx_out hnt hlk hG hp h1 h2 h3 hs2c hs2s) (fun o6 S5 H locs h hG => ?_)
  have hkc := hs2c
  have hks := hs2s
  obtain ⟨q7, rfl, h⟩ := h
  refine lv_astore_n (lv' := [(2, .ref q7), (0, .ref a0z), (1, .int x1z)]) hx hb dX6_whereByLog_5 rfl hl (by decide) rfl (fun ls hl => ?_)
  refine lv_aload_n hx hb dX6_whereByLog_6 rfl (lv_at hl 1 rfl) ?_
  refine lv_aload_n hx hb dX6_whereByLog_7 rfl (lv_at hl 0 rfl) ?_
  obtain ⟨⟨hL10, fK11⟩, h⟩ := h
  refine qc_q hG (va_runV (As := [.ref q7]) (rest := []) ⟨hx, hb, hml, hown, hts⟩ (c_X6_lastLoggedMoveOf l g _ S5 a0z q7 h) (cwV 1 hts gX6_whereByLog_X6_lastLoggedMoveOf rfl rfl rfl (by decide +kernel) ⟨(Nat.le_of_ble_eq_true rfl), (Nat.le_of_ble_eq_true rfl)⟩) ⟨qs_Pc.blind _ _ _ _, hG.recv hL10 fK11 (by decide) rfl, hG.pre _⟩ rfl rfl hl.1 rfl (lv_room (Nat.le_of_ble_eq_true rfl)) dX6_whereByLog_8 ⟨Nat.le_trans hkc hmR, Nat.le_trans hks hsR⟩) (fun o13 S12 H locs h hG => ?_)
  rcases o13 with _ | q14
  · have h := h.1 rfl
    refine lv_astore_nN (lv' := [(3, .null), (2, .ref q7), (0, .ref a0z), (1, .int x1z)]) hx hb dX6_whereByLog_11 rfl hl (by decide) rfl (fun ls hl => ?_)
    refine lv_aload_nN hx hb dX6_whereByLog_12 rfl (lv_at hl 0 rfl) ?_
    refine lv_ifnonnullN hx hb dX6_whereByLog_13 ?_
    refine lv_iconst (v := (0 : Int32)) hx hb dX6_whereByLog_16 (by decide +kernel) ?_
    refine lv_aload_n hx hb dX6_whereByLog_17 rfl (lv_at hl 1 rfl) ?_
    obtain ⟨⟨hL15, fK16⟩, h⟩ := h
    refine qr_get (C := RX0) (T := TX0) (N := 8) (ci := 1) hx hb hts in1 hown hG hL15 fK16 (by decide) rfl 1 (by decide) rfl (hts (.fieldLink RX6 259 "QuayMesh$Box" "place" "I") (List.mem_of_getElem? (i := 1) rfl)) (fun _ h9 => h9) (v := .int (qs_I S12 1 q7)) rfl dX6_whereByLog_18 ?_
    refine lv_topi (fun v17 ev17 => ?_)
    have h := h v17 ev17
    refine lv_iadd hx hb dX6_whereByLog_21 ?_
    refine lv_topi (fun v18 ev18 => ?_)
    have h := h v18 ev18
    refine vx_ret ?_
    exact qe_i hx hb hr hlk hG h hkc hks dX6_whereByLog_22
  · have h := h.2 q14 rfl
    refine lv_astore_n (lv' := [(3, .ref q14), (2, .ref q7), (0, .ref a0z), (1, .int x1z)]) hx hb dX6_whereByLog_11 rfl hl (by decide) rfl (fun ls hl => ?_)
    refine lv_aload_n hx hb dX6_whereByLog_12 rfl (lv_at hl 0 rfl) ?_
    refine lv_ifnonnull (tgt := 23) hx hb dX6_whereByLog_13 (by decide) ?_
    refine lv_aload_n hx hb dX6_whereByLog_23 rfl (lv_at hl 0 rfl) ?_
    obtain ⟨⟨hL19, fK20⟩, h⟩ := h
    refine qr_get (C := RX2) (T := TX2) (N := 7) (ci := 3) hx hb hts in3 hown hG hL19 fK20 (by decide) rfl 1 (by decide) rfl (hts (.fieldLink RX6 271 "QuayMesh$Message" "kind" "I") (List.mem_of_getElem? (i := 2) rfl)) (fun _ h9 => h9) (v := .int (qs_I S12 1 q14)) rfl dX6_whereByLog_24 ?_
    refine lv_topi (fun v21 ev21 => ?_)
    have h := h v21 ev21
    refine lv_if_ne (tgt := 38) hx hb dX6_whereByLog_27 (by decide) (fun c22 => ?_) (fun c22 => ?_)
    · have h := h.1 c22
      refine lv_aload_n hx hb dX6_whereByLog_38 rfl (lv_at hl 0 rfl) ?_
      refine qr_get (C := RX2) (T := TX2) (N := 7) (ci := 3) hx hb hts in3 hown hG hL19 fK20 (by decide) rfl 1 (by decide) rfl (hts (.fieldLink RX6 271 "QuayMesh$Message" "kind" "I") (List.mem_of_getElem? (i := 2) rfl)) (fun _ h9 => h9) (v := .int (qs_I S12 1 q14)) rfl dX6_whereByLog_39 ?_
      refine lv_topi (fun v23 ev23 => ?_)
      have h := h v23 ev23
      refine lv_iconst (v := (1 : Int32)) hx hb dX6_whereByLog_42 (by decide +kernel) ?_
      refine lv_icmp_ne (tgt := 60) hx hb dX6_whereByLog_43 (by decide) (fun c24 => ?_) (fun c24 => ?_)
      · have h := h.1 c24
        refine lv_sipush (v := (400 : Int32)) hx hb dX6_whereByLog_60 (by decide +kernel) ?_
        refine lv_aload_n hx hb dX6_whereByLog_63 rfl (lv_at hl 0 rfl) ?_
        refine qr_get (C := RX2) (T := TX2) (N := 7) (ci := 3) hx hb hts in3 hown hG hL19 fK20 (by decide) rfl 3 (by decide) rfl (hts (.fieldLink RX6 274 "QuayMesh$Message" "target" "I") (List.mem_of_getElem? (i := 3) rfl)) (fun _ h9 => h9) (v := .int (qs_I S12 3 q14)) rfl dX6_whereByLog_64 ?_
        refine lv_topi (fun v25 ev25 => ?_)
        have h := h v25 ev25
        refine lv_iadd hx hb dX6_whereByLog_67 ?_
        refine lv_topi (fun v26 ev26 => ?_)
        have h := h v26 ev26
        exact b68 S12 v26 _ _ (0 + mck1) (0 + msk1) ls hkc hks h hG (lv_sub hl [] rfl)
      · have h := h.2 c24
        refine lv_sipush (v := (300 : Int32)) hx hb dX6_whereByLog_46 (by decide +kernel) ?_
        refine lv_bipush (v := (10 : Int32)) hx hb dX6_whereByLog_49 (by decide +kernel) ?_
        refine lv_aload_n hx hb dX6_whereByLog_51 rfl (lv_at hl 0 rfl) ?_
        refine qr_get (C := RX2) (T := TX2) (N := 7) (ci := 3) hx hb hts in3 hown hG hL19 fK20 (by decide) rfl 3 (by decide) rfl (hts (.fieldLink RX6 274 "QuayMesh$Message" "target" "I") (List.mem_of_getElem? (i := 3) rfl)) (fun _ h9 => h9) (v := .int (qs_I S12 3 q14)) rfl dX6_whereByLog_52 ?_
        refine lv_topi (fun v27 ev27 => ?_)
        have h := h v27 ev27
        refine lv_imul hx hb dX6_whereByLog_55 ?_
        refine lv_topi (fun v28 ev28 => ?_)
        have h := h v28 ev28
        refine lv_iadd hx hb dX6_whereByLog_56 ?_
        refine lv_topi (fun v29 ev29 => ?_)
        have h := h v29 ev29
        refine lv_goto (tgt := 68) hx hb dX6_whereByLog_57 (by decide) ?_
        exact b68 S12 v29 _ _ (0 + mck1) (0 + msk1) ls hkc hks h hG (lv_sub hl [] rfl)
    · have h := h.2 c22
      refine lv_bipush (v := (100 : Int32)) hx hb dX6_whereByLog_30 (by decide +kernel) ?_
      refine lv_aload_n hx hb dX6_whereByLog_32 rfl (lv_at hl 1 rfl) ?_
      obtain ⟨⟨hL30, fK31⟩, h⟩ := h
      refine qr_get (C := RX0) (T := TX0) (N := 8) (ci := 1) hx hb hts in1 hown hG hL30 fK31 (by decide) rfl 1 (by decide) rfl (hts (.fieldLink RX6 259 "QuayMesh$Box" "place" "I") (List.mem_of_getElem? (i := 1) rfl)) (fun _ h9 => h9) (v := .int (qs_I S12 1 q7)) rfl dX6_whereByLog_33 ?_
      refine lv_topi (fun v32 ev32 => ?_)
      have h := h v32 ev32
      refine lv_iadd hx hb dX6_whereByLog_36 ?_
      refine lv_topi (fun v33 ev33 => ?_)
      have h := h v33 ev33
      refine vx_ret ?_
      exact qe_i hx hb hr hlk hG h hkc hks dX6_whereByLog_37
def wp_X6_liftedBy (t0 m9 : Nat) (mc ms : Nat) (post : Int32 → qs_S → Prop) (px : String → qs_S → Prop) (SA : qs_S) (a0z : Nat) (x1z : Int32) : Prop := (a0z ∈ qs_L SA ∧ qs_K SA a0z = 6) ∧ (∃ mck1 msk1 : Nat, (0 + mck1 ≤ mc ∧ 0 + msk1 ≤ ms) ∧ (wp_X6_boxNumbered t0 m9 mck1 msk1 (fun (o6 : Option Nat) (S5 : qs_S) => ∃ q7 : Nat, o6 = some q7 ∧ ((q7 ∈ qs_L S5 ∧ qs_K S5 q7 = 1) ∧ (∀ v10 : Int32, v10 = qs_I S5 5 q7 → post v10 S5))) px SA a0z x1z))
set_option maxHeartbeats 4000000 in
set_option maxRecDepth 100000 in
theorem c_X6_liftedBy (l : Launch) (hl9 : l.stackTraces = false) (g : qs_G) (sz : Nat) (SA : qs_S) (a0z : Nat) (x1z : Int32) {mc ms : Nat} {post : Int32 → qs_S → Prop} {px : String → qs_S → Prop} (h : wp_X6_liftedBy g.2.2.2.2.2.2.1 g.2.2.2.2.2.2.2 mc ms post px SA a0z x1z) : vx_Met l yX6_liftedBy wsX6_liftedBy ({ frames := 8, cells := mc, slots := ms, locals := 132 } : Room) (qs_Pc g sz SA [.ref a0z, .int x1z]) (qs_Qi g (qs_F g SA sz) post) (qs_X g (qs_F g SA sz) px) mc ms (qs_F g SA sz) := by
  refine vx_ofW (cc := cX6_liftedBy) (maxL := 2) (ret := (some .int)) (by decide +kernel) rfl ?_
  intro p e s m args below meth c s₁ B hml hnt hv
  obtain ⟨rfl, hsz, hG⟩ := qs_Gd.start hv
  subst hsz
  have hx := B.exec
  have hb := B.bytes
  have hr := B.returns
  have hts := atoms_spec (ws := wsX6_liftedBy) B.pre
  have hown : s.vm.findClass RX6 = some m.cls := findClass_of_methodNamed B.named
  have hlk := B.notSynchronized
  have in0 : ∀ w ∈ u_ws RJx4a65c TJx4a65c 3, w ∈ wsX6_liftedBy := fun w h => List.mem_cons_of_mem _ (List.mem_append_left _ (List.mem_append_right _ (h)))
  have in1 : ∀ w ∈ u_ws RX0 TX0 8, w ∈ wsX6_liftedBy := fun w h => List.mem_cons_of_mem _ (List.mem_append_left _ (List.mem_append_left _ (List.mem_append_left _ (List.mem_append_right _ (h)))))
  have in6 : ∀ w ∈ u_ws RX6 TX6 8, w ∈ wsX6_liftedBy := fun w h => List.mem_cons_of_mem _ (List.mem_append_left _ (List.mem_append_left _ (List.mem_append_right _ (h))))
  have hkc : 0 ≤ mc := Nat.zero_le _
  have hks : 0 ≤ ms := Nat.zero_le _
  have hmR : mc ≤ (headSpec wsX6_liftedBy ({ frames := 8, cells := mc, slots := ms, locals := 132 } : Room)).room.cells := Nat.le_refl _
  have hsR : ms ≤ (headSpec wsX6_liftedBy ({ frames := 8, cells := mc, slots := ms, locals := 132 } : Room)).room.slots := Nat.le_refl _
  have hl := lv_entry ([.ref a0z, .int x1z]) (n := 2) (Nat.le_of_ble_eq_true rfl)
  rw [lg_entry_eq]
  generalize (lg_sl ([.ref a0z, .int x1z]) ++ List.replicate (2 - (lg_sl ([.ref a0z, .int x1z])).length) Slot.unset).toArray = ls at hl ⊢
  have hl : lv_has ls 2 [(0, .ref a0z), (1, .int x1z)] := hl
  unfold wp_X6_liftedBy at h
  refine lv_aload_n hx hb dX6_liftedBy_0 rfl (lv_at hl 0 rfl) ?_
  refine lv_iload_n hx hb dX6_liftedBy_1 rfl (lv_at hl 1 rfl) ?_
  obtain ⟨⟨hL3, fK4⟩, h⟩ := h
  obtain ⟨mck1, msk1, ⟨hs2c, hs2s⟩, h⟩ := h
  refine qx_q hG (vx_runV (As := [.int x1z]) (rest := []) ⟨hx, hb, hml, hown, hts⟩ (c_X6_boxNumbered l hl9 g _ SA a0z x1z h) (cwV 1 hts gX6_liftedBy_X6_boxNumbered rfl rfl rfl (by decide +kernel) ⟨(Nat.le_of_ble_eq_true rfl), (Nat.le_of_ble_eq_true rfl)⟩) ⟨qs_Pc.blind _ _ _ _, hG.recv hL3 fK4 (by decide) rfl, hG.pre _⟩ rfl rfl hl.1 rfl (lv_room (Nat.le_of_ble_eq_true rfl)) dX6_liftedBy_2 ⟨Nat.le_trans hs2c hmR, Nat.le_trans hs2s hsR⟩) (fun E S1 H locs ce q9 hp hG h1 h2 h3 => qx_out hnt hlk hG hp h1 h2 h3 hs2c hs2s) (fun o6 S5 H locs h hG => ?_)
  have hkc := hs2c
  have hks := hs2s
  obtain ⟨q7, rfl, h⟩ := h
  obtain ⟨⟨hL8, fK9⟩, h⟩ := h
  refine qr_get (C := RX0) (T := TX0) (N := 8) (ci := 1) hx hb hts in1 hown hG hL8 fK9 (by decide) rfl 5 (by decide) rfl (hts (.fieldLink RX6 264 "QuayMesh$Box" "lifter" "I") (List.mem_of_getElem? (i := 1) rfl)) (fun _ h9 => h9) (v := .int (qs_I S5 5 q7)) rfl dX6_liftedBy_5 ?_
  refine lv_topi (fun v10 ev10 => ?_)
  have h := h v10 ev10
  refine vx_ret ?_
  exact qe_i hx hb hr hlk hG h hkc hks dX6_liftedBy_8
def wp_X6_bookedFor (t0 m9 : Nat) (mc ms : Nat) (post : Int32 → qs_S → Prop) (px : String → qs_S → Prop) (SA : qs_S) (a0z : Nat) (x1z : Int32) : Prop := (a0z ∈ qs_L SA ∧ qs_K SA a0z = 6) ∧ (∃ mck1 msk1 : Nat, (0 + mck1 ≤ mc ∧ 0 + msk1 ≤ ms) ∧ (wp_X6_boxNumbered t0 m9 mck1 msk1 (fun (o6 : Option Nat) (S5 : qs_S) => ∃ q7 : Nat, o6 = some q7 ∧ ((q7 ∈ qs_L S5 ∧ qs_K S5 q7 = 1) ∧ (∀ v10 : Int32, v10 = qs_I S5 7 q7 → post v10 S5))) px SA a0z x1z))
set_option maxHeartbeats 4000000 in
set_option maxRecDepth 100000 in
theorem c_X6_bookedFor (l : Launch) (hl9 : l.stackTraces = false) (g : qs_G) (sz : Nat) (SA : qs_S) (a0z : Nat) (x1z : Int32) {mc ms : Nat} {post : Int32 → qs_S → Prop} {px : String → qs_S → Prop} (h : wp_X6_bookedFor g.2.2.2.2.2.2.1 g.2.2.2.2.2.2.2 mc ms post px SA a0z x1z) : vx_Met l yX6_bookedFor wsX6_bookedFor ({ frames := 8, cells := mc, slots := ms, locals := 132 } : Room) (qs_Pc g sz SA [.ref a0z, .int x1z]) (qs_Qi g (qs_F g SA sz) post) (qs_X g (qs_F g SA sz) px) mc ms (qs_F g SA sz) := by
  refine vx_ofW (cc := cX6_bookedFor) (maxL := 2) (ret := (some .int)) (by decide +kernel) rfl ?_
  intro p e s m args below meth c s₁ B hml hnt hv
  obtain ⟨rfl, hsz, hG⟩ := qs_Gd.start hv
  subst hsz
  have hx := B.exec
  have hb := B.bytes
  have hr := B.returns
  have hts := atoms_spec (ws := wsX6_bookedFor) B.pre
  have hown : s.vm.findClass RX6 = some m.cls := findClass_of_methodNamed B.named
  have hlk := B.notSynchronized
  have in0 : ∀ w ∈ u_ws RJx4a65c TJx4a65c 3, w ∈ wsX6_bookedFor := fun w h => List.mem_cons_of_mem _ (List.mem_append_left _ (List.mem_append_right _ (h)))
  have in1 : ∀ w ∈ u_ws RX0 TX0 8, w ∈ wsX6_bookedFor := fun w h => List.mem_cons_of_mem _ (List.mem_append_left _ (List.mem_append_left _ (List.mem_append_left _ (List.mem_append_right _ (h)))))
  have in6 : ∀ w ∈ u_ws RX6 TX6 8, w ∈ wsX6_bookedFor := fun w h => List.mem_cons_of_mem _ (List.mem_append_left _ (List.mem_append_left _ (List.mem_append_right _ (h))))
  have hkc : 0 ≤ mc := Nat.zero_le _
  have hks : 0 ≤ ms := Nat.zero_le _
  have hmR : mc ≤ (headSpec wsX6_bookedFor ({ frames := 8, cells := mc, slots := ms, locals := 132 } : Room)).room.cells := Nat.le_refl _
  have hsR : ms ≤ (headSpec wsX6_bookedFor ({ frames := 8, cells := mc, slots := ms, locals := 132 } : Room)).room.slots := Nat.le_refl _
  have hl := lv_entry ([.ref a0z, .int x1z]) (n := 2) (Nat.le_of_ble_eq_true rfl)
  rw [lg_entry_eq]
  generalize (lg_sl ([.ref a0z, .int x1z]) ++ List.replicate (2 - (lg_sl ([.ref a0z, .int x1z])).length) Slot.unset).toArray = ls at hl ⊢
  have hl : lv_has ls 2 [(0, .ref a0z), (1, .int x1z)] := hl
  unfold wp_X6_bookedFor at h
  refine lv_aload_n hx hb dX6_bookedFor_0 rfl (lv_at hl 0 rfl) ?_
  refine lv_iload_n hx hb dX6_bookedFor_1 rfl (lv_at hl 1 rfl) ?_
  obtain ⟨⟨hL3, fK4⟩, h⟩ := h
  obtain ⟨mck1, msk1, ⟨hs2c, hs2s⟩, h⟩ := h
  refine qx_q hG (vx_runV (As := [.int x1z]) (rest := []) ⟨hx, hb, hml, hown, hts⟩ (c_X6_boxNumbered l hl9 g _ SA a0z x1z h) (cwV 1 hts gX6_bookedFor_X6_boxNumbered rfl rfl rfl (by decide +kernel) ⟨(Nat.le_of_ble_eq_true rfl), (Nat.le_of_ble_eq_true rfl)⟩) ⟨qs_Pc.blind _ _ _ _, hG.recv hL3 fK4 (by decide) rfl, hG.pre _⟩ rfl rfl hl.1 rfl (lv_room (Nat.le_of_ble_eq_true rfl)) dX6_bookedFor_2 ⟨Nat.le_trans hs2c hmR, Nat.le_trans hs2s hsR⟩) (fun E S1 H locs ce q9 hp hG h1 h2 h3 => qx_out hnt hlk hG hp h1 h2 h3 hs2c hs2s) (fun o6 S5 H locs h hG => ?_)
  have hkc := hs2c
  have hks := hs2s
  obtain ⟨q7, rfl, h⟩ := h
  obtain ⟨⟨hL8, fK9⟩, h⟩ := h
  refine qr_get (C := RX0) (T := TX0) (N := 8) (ci := 1) hx hb hts in1 hown hG hL8 fK9 (by decide) rfl 7 (by decide) rfl (hts (.fieldLink RX6 323 "QuayMesh$Box" "bookedHour" "I") (List.mem_of_getElem? (i := 1) rfl)) (fun _ h9 => h9) (v := .int (qs_I S5 7 q7)) rfl dX6_bookedFor_5 ?_
  refine lv_topi (fun v10 ev10 => ?_)
  have h := h v10 ev10
  refine vx_ret ?_
  exact qe_i hx hb hr hlk hG h hkc hks dX6_bookedFor_8
def wp_X6_placeOf (t0 m9 : Nat) (mc ms : Nat) (post : Int32 → qs_S → Prop) (px : String → qs_S → Prop) (SA : qs_S) (a0z : Nat) (x1z : Int32) : Prop := (a0z ∈ qs_L SA ∧ qs_K SA a0z = 6) ∧ (∃ mck1 msk1 : Nat, (0 + mck1 ≤ mc ∧ 0 + msk1 ≤ ms) ∧ (wp_X6_craneNumbered t0 m9 mck1 msk1 (fun (o6 : Option Nat) (S5 : qs_S) => ∃ q7 : Nat, o6 = some q7 ∧ ((q7 ∈ qs_L S5 ∧ qs_K S5 q7 = 2) ∧ (∀ v10 : Int32, v10 = qs_I S5 7 q7 → post v10 S5))) px SA a0z x1z))
set_option maxHeartbeats 4000000 in
set_option maxRecDepth 100000 in
theorem c_X6_placeOf (l : Launch) (hl9 : l.stackTraces = false) (g : qs_G) (sz : Nat) (SA : qs_S) (a0z : Nat) (x1z : Int32) {mc ms : Nat} {post : Int32 → qs_S → Prop} {px : String → qs_S → Prop} (h : wp_X6_placeOf g.2.2.2.2.2.2.1 g.2.2.2.2.2.2.2 mc ms post px SA a0z x1z) : vx_Met l yX6_placeOf wsX6_placeOf ({ frames := 8, cells := mc, slots := ms, locals := 132 } : Room) (qs_Pc g sz SA [.ref a0z, .int x1z]) (qs_Qi g (qs_F g SA sz) post) (qs_X g (qs_F g SA sz) px) mc ms (qs_F g SA sz) := by
  refine vx_ofW (cc := cX6_placeOf) (maxL := 2) (ret := (some .int)) (by decide +kernel) rfl ?_
  intro p e s m args below meth c s₁ B hml hnt hv
  obtain ⟨rfl, hsz, hG⟩ := qs_Gd.start hv
  subst hsz
  have hx := B.exec
  have hb := B.bytes
  have hr := B.returns
  have hts := atoms_spec (ws := wsX6_placeOf) B.pre
  have hown : s.vm.findClass RX6 = some m.cls := findClass_of_methodNamed B.named
  have hlk := B.notSynchronized
  have in0 : ∀ w ∈ u_ws RJx4a65c TJx4a65c 3, w ∈ wsX6_placeOf := fun w h => List.mem_cons_of_mem _ (List.mem_append_left _ (List.mem_append_right _ (h)))
  have in2 : ∀ w ∈ u_ws RX1 TX1 8, w ∈ wsX6_placeOf := fun w h => List.mem_cons_of_mem _ (List.mem_append_left _ (List.mem_append_left _ (List.mem_append_left _ (List.mem_append_right _ (h)))))
  have in6 : ∀ w ∈ u_ws RX6 TX6 8, w ∈ wsX6_placeOf := fun w h => List.mem_cons_of_mem _ (List.mem_append_left _ (List.mem_append_left _ (List.mem_append_right _ (h))))
  have hkc : 0 ≤ mc := Nat.zero_le _
  have hks : 0 ≤ ms := Nat.zero_le _
  have hmR : mc ≤ (headSpec wsX6_placeOf ({ frames := 8, cells := mc, slots := ms, locals := 132 } : Room)).room.cells := Nat.le_refl _
  have hsR : ms ≤ (headSpec wsX6_placeOf ({ frames := 8, cells := mc, slots := ms, locals := 132 } : Room)).room.slots := Nat.le_refl _
  have hl := lv_entry ([.ref a0z, .int x1z]) (n := 2) (Nat.le_of_ble_eq_true rfl)
  rw [lg_entry_eq]
  generalize (lg_sl ([.ref a0z, .int x1z]) ++ List.replicate (2 - (lg_sl ([.ref a0z, .int x1z])).length) Slot.unset).toArray = ls at hl ⊢
  have hl : lv_has ls 2 [(0, .ref a0z), (1, .int x1z)] := hl
  unfold wp_X6_placeOf at h
  refine lv_aload_n hx hb dX6_placeOf_0 rfl (lv_at hl 0 rfl) ?_
  refine lv_iload_n hx hb dX6_placeOf_1 rfl (lv_at hl 1 rfl) ?_
  obtain ⟨⟨hL3, fK4⟩, h⟩ := h
  obtain ⟨mck1, msk1, ⟨hs2c, hs2s⟩, h⟩ := h
  refine qx_q hG (vx_runV (As := [.int x1z]) (rest := []) ⟨hx, hb, hml, hown, hts⟩ (c_X6_craneNumbered l hl9 g _ SA a0z x1z h) (cwV 1 hts gX6_placeOf_X6_craneNumbered rfl rfl rfl (by decide +kernel) ⟨(Nat.le_of_ble_eq_true rfl), (Nat.le_of_ble_eq_true rfl)⟩) ⟨qs_Pc.blind _ _ _ _, hG.recv hL3 fK4 (by decide) rfl, hG.pre _⟩ rfl rfl hl.1 rfl (lv_room (Nat.le_of_ble_eq_true rfl)) dX6_placeOf_2 ⟨Nat.le_trans hs2c hmR, Nat.le_trans hs2s hsR⟩) (fun E S1 H locs ce q9 hp hG h1 h2 h3 => qx_out hnt hlk hG hp h1 h2 h3 hs2c hs2s) (fun o6 S5 H locs h hG => ?_)
  have hkc := hs2c
  have hks := hs2s
  obtain ⟨q7, rfl, h⟩ := h
  obtain ⟨⟨hL8, fK9⟩, h⟩ := h
  refine qr_get (C := RX1) (T := TX1) (N := 8) (ci := 2) hx hb hts in2 hown hG hL8 fK9 (by decide) rfl 7 (by decide) rfl (hts (.fieldLink RX6 239 "QuayMesh$Crane" "place" "I") (List.mem_of_getElem? (i := 1) rfl)) (fun _ h9 => h9) (v := .int (qs_I S5 7 q7)) rfl dX6_placeOf_5 ?_
  refine lv_topi (fun v10 ev10 => ?_)
  have h := h v10 ev10
  refine vx_ret ?_
  exact qe_i hx hb hr hlk hG h hkc hks dX6_placeOf_8
def wp_X6_height (t0 m9 : Nat) (mc ms : Nat) (post : Int32 → qs_S → Prop) (px : String → qs_S → Prop) (SA : qs_S) (a0z : Nat) (x1z : Int32) : Prop := ∃ mck1 msk1 : Nat, (0 + mck1 ≤ mc ∧ 0 + msk1 ≤ ms) ∧ (wp_X6_requireOneOf t0 m9 mck1 msk1 (fun (S3 : qs_S) => (a0z ∈ qs_L S3 ∧ qs_K S3 a0z = 6) ∧ (wp_X6_countAt t0 m9 (fun (v9 : Int32) (S8 : qs_S) => post v9 S8) S3 a0z (3 : Int32) x1z)) px SA x1z (6 : Int32))
set_option maxHeartbeats 4000000 in
set_option maxRecDepth 100000 in
theorem c_X6_height (l : Launch) (hl9 : l.stackTraces = false) (g : qs_G) (sz : Nat) (SA : qs_S) (a0z : Nat) (x1z : Int32) {mc ms : Nat} {post : Int32 → qs_S → Prop} {px : String → qs_S → Prop} (h : wp_X6_height g.2.2.2.2.2.2.1 g.2.2.2.2.2.2.2 mc ms post px SA a0z x1z) : vx_Met l yX6_height wsX6_height ({ frames := 7, cells := mc, slots := ms, locals := 111 } : Room) (qs_Pc g sz SA [.ref a0z, .int x1z]) (qs_Qi g (qs_F g SA sz) post) (qs_X g (qs_F g SA sz) px) mc ms (qs_F g SA sz) := by
  refine vx_ofW (cc := cX6_height) (maxL := 2) (ret := (some .int)) (by decide +kernel) rfl ?_
  intro p e s m args below meth c s₁ B hml hnt hv
  obtain ⟨rfl, hsz, hG⟩ := qs_Gd.start hv
  subst hsz
  have hx := B.exec
  have hb := B.bytes
  have hr := B.returns
  have hts := atoms_spec (ws := wsX6_height) B.pre
  have hown : s.vm.findClass RX6 = some m.cls := findClass_of_methodNamed B.named
  have hlk := B.notSynchronized
  have in0 : ∀ w ∈ u_ws RJx4a65c TJx4a65c 3, w ∈ wsX6_height := fun w h => List.mem_cons_of_mem _ (List.mem_append_left _ (List.mem_append_left _ (List.mem_append_right _ (h))))
  have in1 : ∀ w ∈ u_ws RX0 TX0 8, w ∈ wsX6_height := fun w h => List.mem_cons_of_mem _ (List.mem_append_left _ (List.mem_append_right _ (h)))
  have in6 : ∀ w ∈ u_ws RX6 TX6 8, w ∈ wsX6_height := fun w h => List.mem_cons_of_mem _ (List.mem_append_left _ (List.mem_append_left _ (List.mem_append_left _ (List.mem_append_right _ (h)))))
  have hkc : 0 ≤ mc := Nat.zero_le _
  have hks : 0 ≤ ms := Nat.zero_le _
  have hmR : mc ≤ (headSpec wsX6_height ({ frames := 7, cells := mc, slots := ms, locals := 111 } : Room)).room.cells := Nat.le_refl _
  have hsR : ms ≤ (headSpec wsX6_height ({ frames := 7, cells := mc, slots := ms, locals := 111 } : Room)).room.slots := Nat.le_refl _
  have hl := lv_entry ([.ref a0z, .int x1z]) (n := 2) (Nat.le_of_ble_eq_true rfl)
  rw [lg_entry_eq]
  generalize (lg_sl ([.ref a0z, .int x1z]) ++ List.replicate (2 - (lg_sl ([.ref a0z, .int x1z])).length) Slot.unset).toArray = ls at hl ⊢
  have hl : lv_has ls 2 [(0, .ref a0z), (1, .int x1z)] := hl
  unfold wp_X6_height at h
  refine lv_iload_n hx hb dX6_height_0 rfl (lv_at hl 1 rfl) ?_
  refine lv_bipush (v := (6 : Int32)) hx hb dX6_height_1 (by decide +kernel) ?_
  obtain ⟨mck1, msk1, ⟨hs2c, hs2s⟩, h⟩ := h
  refine qx_v hG (vx_runS (As := [.int x1z, .int (6 : Int32)]) (rest := []) ⟨hx, hb, hml, hown, hts⟩ (c_X6_requireOneOf l hl9 g _ SA x1z (6 : Int32) h) (va_cwS 2 hts gX6_height_X6_requireOneOf rfl rfl rfl (by decide +kernel) ⟨(Nat.le_of_ble_eq_true rfl), (Nat.le_of_ble_eq_true rfl)⟩) ⟨qs_Pc.blind _ _ _ _, hG.pre _⟩ rfl rfl hl.1 rfl (lv_room (Nat.le_of_ble_eq_true rfl)) dX6_height_3 ⟨Nat.le_trans hs2c hmR, Nat.le_trans hs2s hsR⟩) (fun E S1 H locs ce q9 hp hG h1 h2 h3 => qx_out hnt hlk hG hp h1 h2 h3 hs2c hs2s) (fun S3 H locs h hG => ?_)
  have hkc := hs2c
  have hks := hs2s
  refine lv_aload_n hx hb dX6_height_6 rfl (lv_at hl 0 rfl) ?_
  refine lv_iconst (v := (3 : Int32)) hx hb dX6_height_7 (by decide +kernel) ?_
  refine lv_iload_n hx hb dX6_height_8 rfl (lv_at hl 1 rfl) ?_
  obtain ⟨⟨hL6, fK7⟩, h⟩ := h
  refine qc_i hG (va_runV (As := [.int (3 : Int32), .int x1z]) (rest := []) ⟨hx, hb, hml, hown, hts⟩ (c_X6_countAt l g _ S3 a0z (3 : Int32) x1z h) (cwV 2 hts gX6_height_X6_countAt rfl rfl rfl (by decide +kernel) ⟨(Nat.le_of_ble_eq_true rfl), (Nat.le_of_ble_eq_true rfl)⟩) ⟨qs_Pc.blind _ _ _ _, hG.recv hL6 fK7 (by decide) rfl, hG.pre _⟩ rfl rfl hl.1 rfl (lv_room (Nat.le_of_ble_eq_true rfl)) dX6_height_9 ⟨Nat.le_trans hkc hmR, Nat.le_trans hks hsR⟩) (fun v9 S8 H locs h hG => ?_)
  refine vx_ret ?_
  exact qe_i hx hb hr hlk hG h hkc hks dX6_height_12
def wp_X6_queue (t0 m9 : Nat) (mc ms : Nat) (post : Int32 → qs_S → Prop) (px : String → qs_S → Prop) (SA : qs_S) (a0z : Nat) (x1z : Int32) : Prop := (a0z ∈ qs_L SA ∧ qs_K SA a0z = 6) ∧ (∃ mck1 msk1 : Nat, (0 + mck1 ≤ mc ∧ 0 + msk1 ≤ ms) ∧ (wp_X6_workerNumbered t0 m9 mck1 msk1 (fun (o6 : Option Nat) (S5 : qs_S) => ∃ q7 : Nat, o6 = some q7 ∧ ((q7 ∈ qs_L S5 ∧ (qs_K S5 q7 = 2 ∨ qs_K S5 q7 = 5)) ∧ (∃ q10 : Nat, qs_R S5 1 q7 = some q10 ∧ ((q10 ∈ qs_L S5 ∧ qs_K S5 q10 = 0) ∧ (wp_Jx4a65c_size_8abf5 t0 m9 (fun (v16 : Int32) (S15 : qs_S) => post v16 S15) S5 q10))))) px SA a0z x1z))
set_option maxHeartbeats 4000000 in
set_option maxRecDepth 100000 in
theorem c_X6_queue (l : Launch) (hl9 : l.stackTraces = false) (g : qs_G) (sz : Nat) (SA : qs_S) (a0z : Nat) (x1z : Int32) {mc ms : Nat} {post : Int32 → qs_S → Prop} {px : String → qs_S → Prop} (h : wp_X6_queue g.2.2.2.2.2.2.1 g.2.2.2.2.2.2.2 mc ms post px SA a0z x1z) : vx_Met l yX6_queue wsX6_queue ({ frames := 9, cells := mc, slots := ms, locals := 153 } : Room) (qs_Pc g sz SA [.ref a0z, .int x1z]) (qs_Qi g (qs_F g SA sz) post) (qs_X g (qs_F g SA sz) px) mc ms (qs_F g SA sz) := by
  refine vx_ofW (cc := cX6_queue) (maxL := 2) (ret := (some .int)) (by decide +kernel) rfl ?_
  intro p e s m args below meth c s₁ B hml hnt hv
  obtain ⟨rfl, hsz, hG⟩ := qs_Gd.start hv
  subst hsz
  have hx := B.exec
  have hb := B.bytes
  have hr := B.returns
  have hts := atoms_spec (ws := wsX6_queue) B.pre
  have hown : s.vm.findClass RX6 = some m.cls := findClass_of_methodNamed B.named
  have hlk := B.notSynchronized
  have in0 : ∀ w ∈ u_ws RJx4a65c TJx4a65c 3, w ∈ wsX6_queue := fun w h => List.mem_cons_of_mem _ (List.mem_append_left _ (List.mem_append_right _ (h)))
  have in2 : ∀ w ∈ u_ws RX1 TX1 8, w ∈ wsX6_queue := fun w h => List.mem_cons_of_mem _ (List.mem_append_left _ (List.mem_append_left _ (List.mem_append_left _ (List.mem_append_left _ (List.mem_append_right _ (h))))))
  have in5 : ∀ w ∈ u_ws RX4 TX4 8, w ∈ wsX6_queue := fun w h => List.mem_cons_of_mem _ (List.mem_append_left _ (List.mem_append_left _ (List.mem_append_left _ (List.mem_append_right _ (h)))))
  have in6 : ∀ w ∈ u_ws RX6 TX6 8, w ∈ wsX6_queue := fun w h => List.mem_cons_of_mem _ (List.mem_append_left _ (List.mem_append_left _ (List.mem_append_right _ (h))))
  have hkc : 0 ≤ mc := Nat.zero_le _
  have hks : 0 ≤ ms := Nat.zero_le _
  have hmR : mc ≤ (headSpec wsX6_queue ({ frames := 9, cells := mc, slots := ms, locals := 153 } : Room)).room.cells := Nat.le_refl _
  have hsR : ms ≤ (headSpec wsX6_queue ({ frames := 9, cells := mc, slots := ms, locals := 153 } : Room)).room.slots := Nat.le_refl _
  have hl := lv_entry ([.ref a0z, .int x1z]) (n := 2) (Nat.le_of_ble_eq_true rfl)
  rw [lg_entry_eq]
  generalize (lg_sl ([.ref a0z, .int x1z]) ++ List.replicate (2 - (lg_sl ([.ref a0z, .int x1z])).length) Slot.unset).toArray = ls at hl ⊢
  have hl : lv_has ls 2 [(0, .ref a0z), (1, .int x1z)] := hl
  unfold wp_X6_queue at h
  refine lv_aload_n hx hb dX6_queue_0 rfl (lv_at hl 0 rfl) ?_
  refine lv_iload_n hx hb dX6_queue_1 rfl (lv_at hl 1 rfl) ?_
  obtain ⟨⟨hL3, fK4⟩, h⟩ := h
  obtain ⟨mck1, msk1, ⟨hs2c, hs2s⟩, h⟩ := h
  refine qx_q hG (vx_runV (As := [.int x1z]) (rest := []) ⟨hx, hb, hml, hown, hts⟩ (c_X6_workerNumbered l hl9 g _ SA a0z x1z h) (cwV 1 hts gX6_queue_X6_workerNumbered rfl rfl rfl (by decide +kernel) ⟨(Nat.le_of_ble_eq_true rfl), (Nat.le_of_ble_eq_true rfl)⟩) ⟨qs_Pc.blind _ _ _ _, hG.recv hL3 fK4 (by decide) rfl, hG.pre _⟩ rfl rfl hl.1 rfl (lv_room (Nat.le_of_ble_eq_true rfl)) dX6_queue_2 ⟨Nat.le_trans hs2c hmR, Nat.le_trans hs2s hsR⟩) (fun E S1 H locs ce q9 hp hG h1 h2 h3 => qx_out hnt hlk hG hp h1 h2 h3 hs2c hs2s) (fun o6 S5 H locs h hG => ?_)
  have hkc := hs2c
  have hks := hs2s
  obtain ⟨q7, rfl, h⟩ := h
  obtain ⟨⟨hL8, fK9⟩, h⟩ := h
  obtain ⟨q10, eq10, h⟩ := h
  refine qr_getW hx hb hts in2 in5 hown hG hL8 fK9 1 (by decide) rfl ⟨rfl, rfl⟩ (hts (.fieldLink RX6 146 "QuayMesh$Worker" "waiting" "Ljava/util/ArrayList;") (List.mem_of_getElem? (i := 1) rfl)) (fun _ h9 => h9) (fun _ h9 => h9) (v := .ref q10) (qs_rf eq10) dX6_queue_5 ?_
  obtain ⟨⟨hL13, fK14⟩, h⟩ := h
  refine qc_i hG (va_runV (As := []) (rest := []) ⟨hx, hb, hml, hown, hts⟩ (c_Jx4a65c_size_8abf5 l g _ S5 q10 h) (cwV 0 hts gX6_queue_Jx4a65c_size_8abf5 rfl rfl rfl (by decide +kernel) ⟨(Nat.le_of_ble_eq_true rfl), (Nat.le_of_ble_eq_true rfl)⟩) ⟨qs_Pc.blind _ _ _ _, hG.recv hL13 fK14 (by decide) rfl, hG.pre _⟩ rfl rfl hl.1 rfl (lv_room (Nat.le_of_ble_eq_true rfl)) dX6_queue_8 ⟨Nat.le_trans hkc hmR, Nat.le_trans hks hsR⟩) (fun v16 S15 H locs h hG => ?_)
  refine vx_ret ?_
  exact qe_i hx hb hr hlk hG h hkc hks dX6_queue_11
def wp_X6_queued (t0 m9 : Nat) (mc ms : Nat) (post : Int32 → qs_S → Prop) (px : String → qs_S → Prop) (SA : qs_S) (a0z : Nat) (x1z : Int32) (x2z : Int32) : Prop := (a0z ∈ qs_L SA ∧ qs_K SA a0z = 6) ∧ (∃ mck1 msk1 : Nat, (0 + mck1 ≤ mc ∧ 0 + msk1 ≤ ms) ∧ (wp_X6_workerNumbered t0 m9 mck1 msk1 (fun (o6 : Option Nat) (S5 : qs_S) => ∃ q7 : Nat, o6 = some q7 ∧ ((q7 ∈ qs_L S5 ∧ (qs_K S5 q7 = 2 ∨ qs_K S5 q7 = 5)) ∧ (∃ q10 : Nat, qs_R S5 1 q7 = some q10 ∧ (∃ mck11 msk11 : Nat, (0 + mck1 + mck11 ≤ mc ∧ 0 + msk1 + msk11 ≤ ms) ∧ (wp_X6_elementOf t0 m9 mck11 msk11 (fun (o14 : Option Nat) (S13 : qs_S) => ∃ q15 : Nat, o14 = some q15 ∧ ((q15 ∈ qs_L S13 ∧ qs_K S13 q15 = 3) ∧ (∀ v18 : Int32, v18 = qs_I S13 0 q15 → post v18 S13))) px S5 q10 x2z))))) px SA a0z x1z))
set_option maxHeartbeats 4000000 in
set_option maxRecDepth 100000 in
theorem c_X6_queued (l : Launch) (hl9 : l.stackTraces = false) (g : qs_G) (sz : Nat) (SA : qs_S) (a0z : Nat) (x1z : Int32) (x2z : Int32) {mc ms : Nat} {post : Int32 → qs_S → Prop} {px : String → qs_S → Prop} (h : wp_X6_queued g.2.2.2.2.2.2.1 g.2.2.2.2.2.2.2 mc ms post px SA a0z x1z x2z) : vx_Met l yX6_queued wsX6_queued ({ frames := 9, cells := mc, slots := ms, locals := 153 } : Room) (qs_Pc g sz SA [.ref a0z, .int x1z, .int x2z]) (qs_Qi g (qs_F g SA sz) post) (qs_X g (qs_F g SA sz) px) mc ms (qs_F g SA sz) := by
  refine vx_ofW (cc := cX6_queued) (maxL := 3) (ret := (some .int)) (by decide +kernel) rfl ?_
  intro p e s m args below meth c s₁ B hml hnt hv
  obtain ⟨rfl, hsz, hG⟩ := qs_Gd.start hv
  subst hsz
  have hx := B.exec
  have hb := B.bytes
  have hr := B.returns
  have hts := atoms_spec (ws := wsX6_queued) B.pre
  have hown : s.vm.findClass RX6 = some m.cls := findClass_of_methodNamed B.named
  have hlk := B.notSynchronized
  have in0 : ∀ w ∈ u_ws RJx4a65c TJx4a65c 3, w ∈ wsX6_queued := fun w h => List.mem_cons_of_mem _ (List.mem_append_left _ (List.mem_append_right _ (h)))
  have in2 : ∀ w ∈ u_ws RX1 TX1 8, w ∈ wsX6_queued := fun w h => List.mem_cons_of_mem _ (List.mem_append_left _ (List.mem_append_left _ (List.mem_append_left _ (List.mem_append_left _ (List.mem_append_left _ (List.mem_append_right _ (h)))))))
  have in3 : ∀ w ∈ u_ws RX2 TX2 7, w ∈ wsX6_queued := fun w h => List.mem_cons_of_mem _ (List.mem_append_left _ (List.mem_append_left _ (List.mem_append_left _ (List.mem_append_right _ (h)))))
  have in5 : ∀ w ∈ u_ws RX4 TX4 8, w ∈ wsX6_queued := fun w h => List.mem_cons_of_mem _ (List.mem_append_left _ (List.mem_append_left _ (List.mem_append_left _ (List.mem_append_left _ (List.mem_append_right _ (h))))))
  have in6 : ∀ w ∈ u_ws RX6 TX6 8, w ∈ wsX6_queued := fun w h => List.mem_cons_of_mem _ (List.mem_append_left _ (List.mem_append_left _ (List.mem_append_right _ (h))))
  have hkc : 0 ≤ mc := Nat.zero_le _
  have hks : 0 ≤ ms := Nat.zero_le _
  have hmR : mc ≤ (headSpec wsX6_queued ({ frames := 9, cells := mc, slots := ms, locals := 153 } : Room)).room.cells := Nat.le_refl _
  have hsR : ms ≤ (headSpec wsX6_queued ({ frames := 9, cells := mc, slots := ms, locals := 153 } : Room)).room.slots := Nat.le_refl _
  have hl := lv_entry ([.ref a0z, .int x1z, .int x2z]) (n := 3) (Nat.le_of_ble_eq_true rfl)
  rw [lg_entry_eq]
  generalize (lg_sl ([.ref a0z, .int x1z, .int x2z]) ++ List.replicate (3 - (lg_sl ([.ref a0z, .int x1z, .int x2z])).length) Slot.unset).toArray = ls at hl ⊢
  have hl : lv_has ls 3 [(0, .ref a0z), (1, .int x1z), (2, .int x2z)] := hl
  unfold wp_X6_queued at h
  refine lv_aload_n hx hb dX6_queued_0 rfl (lv_at hl 0 rfl) ?_
  refine lv_iload_n hx hb dX6_queued_1 rfl (lv_at hl 1 rfl) ?_
  obtain ⟨⟨hL3, fK4⟩, h⟩ := h
  obtain ⟨mck1, msk1, ⟨hs2c, hs2s⟩, h⟩ := h
  refine qx_q hG (vx_runV (As := [.int x1z]) (rest := []) ⟨hx, hb, hml, hown, hts⟩ (c_X6_workerNumbered l hl9 g _ SA a0z x1z h) (cwV 1 hts gX6_queued_X6_workerNumbered rfl rfl rfl (by decide +kernel) ⟨(Nat.le_of_ble_eq_true rfl), (Nat.le_of_ble_eq_true rfl)⟩) ⟨qs_Pc.blind _ _ _ _, hG.recv hL3 fK4 (by decide) rfl, hG.pre _⟩ rfl rfl hl.1 rfl (lv_room (Nat.le_of_ble_eq_true rfl)) dX6_queued_2 ⟨Nat.le_trans hs2c hmR, Nat.le_trans hs2s hsR⟩) (fun E S1 H locs ce q9 hp hG h1 h2 h3 => qx_out hnt hlk hG hp h1 h2 h3 hs2c hs2s) (fun o6 S5 H locs h hG => ?_)
  have hkc := hs2c
  have hks := hs2s
  obtain ⟨q7, rfl, h⟩ := h
  obtain ⟨⟨hL8, fK9⟩, h⟩ := h
  obtain ⟨q10, eq10, h⟩ := h
  refine qr_getW hx hb hts in2 in5 hown hG hL8 fK9 1 (by decide) rfl ⟨rfl, rfl⟩ (hts (.fieldLink RX6 146 "QuayMesh$Worker" "waiting" "Ljava/util/ArrayList;") (List.mem_of_getElem? (i := 1) rfl)) (fun _ h9 => h9) (fun _ h9 => h9) (v := .ref q10) (qs_rf eq10) dX6_queued_5 ?_
  refine lv_iload_n hx hb dX6_queued_8 rfl (lv_at hl 2 rfl) ?_
  obtain ⟨mck11, msk11, ⟨hs12c, hs12s⟩, h⟩ := h
  refine qx_q hG (vx_runS (As := [.ref q10, .int x2z]) (rest := []) ⟨hx, hb, hml, hown, hts⟩ (c_X6_elementOf l hl9 g _ S5 q10 x2z h) (va_cwS 2 hts gX6_queued_X6_elementOf rfl rfl rfl (by decide +kernel) ⟨(Nat.le_of_ble_eq_true rfl), (Nat.le_of_ble_eq_true rfl)⟩) ⟨qs_Pc.blind _ _ _ _, hG.pre _⟩ rfl rfl hl.1 rfl (lv_room (Nat.le_of_ble_eq_true rfl)) dX6_queued_9 ⟨Nat.le_trans hs12c hmR, Nat.le_trans hs12s hsR⟩) (fun E S1 H locs ce q9 hp hG h1 h2 h3 => qx_out hnt hlk hG hp h1 h2 h3 hs12c hs12s) (fun o14 S13 H locs h hG => ?_)
  have hkc := hs12c
  have hks := hs12s
  obtain ⟨q15, rfl, h⟩ := h
  obtain ⟨⟨hL16, fK17⟩, h⟩ := h
  refine qr_get (C := RX2) (T := TX2) (N := 7) (ci := 3) hx hb hts in3 hown hG hL16 fK17 (by decide) rfl 0 (by decide) rfl (hts (.fieldLink RX6 151 "QuayMesh$Message" "number" "I") (List.mem_of_getElem? (i := 2) rfl)) (fun _ h9 => h9) (v := .int (qs_I S13 0 q15)) rfl dX6_queued_12 ?_
  refine lv_topi (fun v18 ev18 => ?_)
  have h := h v18 ev18
  refine vx_ret ?_
  exact qe_i hx hb hr hlk hG h hkc hks dX6_queued_15
def wp_X6_seen_b21 (t0 m9 : Nat) (mc ms : Nat) (post : Int32 → qs_S → Prop) (px : String → qs_S → Prop) (k n : Nat) (S : qs_S) (s0 : Int32) : Prop := post s0 S
def wp_X6_seen (t0 m9 : Nat) (mc ms : Nat) (post : Int32 → qs_S → Prop) (px : String → qs_S → Prop) (SA : qs_S) (a0z : Nat) (x1z : Int32) : Prop := (a0z ∈ qs_L SA ∧ qs_K SA a0z = 6) ∧ (∃ mck1 msk1 : Nat, (0 + mck1 ≤ mc ∧ 0 + msk1 ≤ ms) ∧ (wp_X6_truckNumbered t0 m9 mck1 msk1 (fun (o6 : Option Nat) (S5 : qs_S) => ∃ q7 : Nat, o6 = some q7 ∧ ((q7 ∈ qs_L S5 ∧ qs_K S5 q7 = 5) ∧ ((qs_R S5 7 q7 = none → (wp_X6_seen_b21 t0 m9 mc ms post px (0 + mck1) (0 + msk1) S5 (-1 : Int32))) ∧ (∀ q10 : Nat, qs_R S5 7 q7 = some q10 → ((q10 ∈ qs_L S5 ∧ qs_K S5 q10 = 3) ∧ (∀ v13 : Int32, v13 = qs_I S5 0 q10 → wp_X6_seen_b21 t0 m9 mc ms post px (0 + mck1) (0 + msk1) S5 v13)))))) px SA a0z x1z))
set_option maxHeartbeats 4000000 in
set_option maxRecDepth 100000 in
theorem c_X6_seen (l : Launch) (hl9 : l.stackTraces = false) (g : qs_G) (sz : Nat) (SA : qs_S) (a0z : Nat) (x1z : Int32) {mc ms : Nat} {post : Int32 → qs_S → Prop} {px : String → qs_S → Prop} (h : wp_X6_seen g.2.2.2.2.2.2.1 g.2.2.2.2.2.2.2 mc ms post px SA a0z x1z) : vx_Met l yX6_seen wsX6_seen ({ frames := 7, cells := mc, slots := ms, locals := 111 } : Room) (qs_Pc g sz SA [.ref a0z, .int x1z]) (qs_Qi g (qs_F g SA sz) post) (qs_X g (qs_F g SA sz) px) mc ms (qs_F g SA sz) := by
  refine vx_ofW (cc := cX6_seen) (maxL := 3) (ret := (some .int)) (by decide +kernel) rfl ?_
  intro p e s m args below meth c s₁ B hml hnt hv
  obtain ⟨rfl, hsz, hG⟩ := qs_Gd.start hv
  subst hsz
  have hx := B.exec
  have hb := B.bytes
  have hr := B.returns
  have hts := atoms_spec (ws := wsX6_seen) B.pre
  have hown : s.vm.findClass RX6 = some m.cls := findClass_of_methodNamed B.named
  have hlk := B.notSynchronized
  have in0 : ∀ w ∈ u_ws RJx4a65c TJx4a65c 3, w ∈ wsX6_seen := fun w h => List.mem_cons_of_mem _ (List.mem_append_left _ (List.mem_append_right _ (h)))
  have in3 : ∀ w ∈ u_ws RX2 TX2 7, w ∈ wsX6_seen := fun w h => List.mem_cons_of_mem _ (List.mem_append_left _ (List.mem_append_left _ (List.mem_append_left _ (List.mem_append_right _ (h)))))
  have in5 : ∀ w ∈ u_ws RX4 TX4 8, w ∈ wsX6_seen := fun w h => List.mem_cons_of_mem _ (List.mem_append_left _ (List.mem_append_left _ (List.mem_append_left _ (List.mem_append_left _ (List.mem_append_right _ (h))))))
  have in6 : ∀ w ∈ u_ws RX6 TX6 8, w ∈ wsX6_seen := fun w h => List.mem_cons_of_mem _ (List.mem_append_left _ (List.mem_append_left _ (List.mem_append_right _ (h))))
  have hkc : 0 ≤ mc := Nat.zero_le _
  have hks : 0 ≤ ms := Nat.zero_le _
  have hmR : mc ≤ (headSpec wsX6_seen ({ frames := 7, cells := mc, slots := ms, locals := 111 } : Room)).room.cells := Nat.le_refl _
  have hsR : ms ≤ (headSpec wsX6_seen ({ frames := 7, cells := mc, slots := ms, locals := 111 } : Room)).room.slots := Nat.le_refl _
  have b21 : ∀ (S : qs_S) (s0 : Int32) (H : Heap) (locs : List Loc) (k n : Nat) (ls : Array Slot), k ≤ mc → n ≤ ms → wp_X6_seen_b21 g.2.2.2.2.2.2.1 g.2.2.2.2.2.2.2 mc ms post px k n S s0 → qs_Gd g (qs_F g SA s.heap.size) s S H locs → lv_has ls 3 [] → W p l e (headSpec wsX6_seen ({ frames := 7, cells := mc, slots := ms, locals := 111 } : Room)).room s m (([.ref a0z, .int x1z] : List Value)).toArray below meth c H locs k n (vx_MQ below (qs_Qi g (qs_F g SA s.heap.size) post) (qs_X g (qs_F g SA s.heap.size) px) (([.ref a0z, .int x1z] : List Value)).toArray s mc ms (qs_F g SA s.heap.size)) (F0 m 21 ls [.int s0]) := by
    intro S s0 H locs k n ls hkc hks h hG hl
    unfold wp_X6_seen_b21 at h
    refine vx_ret ?_
    exact qe_i hx hb hr hlk hG h hkc hks dX6_seen_21
  have hl := lv_entry ([.ref a0z, .int x1z]) (n := 3) (Nat.le_of_ble_eq_true rfl)
  rw [lg_entry_eq]
  generalize (lg_sl ([.ref a0z, .int x1z]) ++ List.replicate (3 - (lg_sl ([.ref a0z, .int x1z])).length) Slot.unset).toArray = ls at hl ⊢
  have hl : lv_has ls 3 [(0, .ref a0z), (1, .int x1z)] := hl
  unfold wp_X6_seen at h
  refine lv_aload_n hx hb dX6_seen_0 rfl (lv_at hl 0 rfl) ?_
  refine lv_iload_n hx hb dX6_seen_1 rfl (lv_at hl 1 rfl) ?_
  obtain ⟨⟨hL3, fK4⟩, h⟩ := h
  obtain ⟨mck1, msk1, ⟨hs2c, hs2s⟩, h⟩ := h
  refine qx_q hG (vx_runV (As := [.int x1z]) (rest := []) ⟨hx, hb, hml, hown, hts⟩ (c_X6_truckNumbered l hl9 g _ SA a0z x1z h) (cwV 1 hts gX6_seen_X6_truckNumbered rfl rfl rfl (by decide +kernel) ⟨(Nat.le_of_ble_eq_true rfl), (Nat.le_of_ble_eq_true rfl)⟩) ⟨qs_Pc.blind _ _ _ _, hG.recv hL3 fK4 (by decide) rfl, hG.pre _⟩ rfl rfl hl.1 rfl (lv_room (Nat.le_of_ble_eq_true rfl)) dX6_seen_2 ⟨Nat.le_trans hs2c hmR, Nat.le_trans hs2s hsR⟩) (fun E S1 H locs ce q9 hp hG h1 h2 h3 => qx_out hnt hlk hG hp h1 h2 h3 hs2c hs2s) (fun o6 S5 H locs h hG => ?_)
  have hkc := hs2c
  have hks := hs2s
  obtain ⟨q7, rfl, h⟩ := h
  obtain ⟨⟨hL8, fK9⟩, h⟩ := h
  rcases eq10 : qs_R S5 7 q7 with _ | q10
  · have h := h.1 eq10
    refine qr_get (C := RX4) (T := TX4) (N := 8) (ci := 5) hx hb hts in5 hown hG hL8 fK9 (by decide) rfl 7 (by decide) rfl (hts (.fieldLink RX6 173 "QuayMesh$Truck" "lastSeen" "LQuayMesh$Message;") (List.mem_of_getElem? (i := 1) rfl)) (fun _ h9 => h9) (v := .null) (qs_rn eq10) dX6_seen_5 ?_
    refine lv_astore_nN (lv' := [(2, .null), (0, .ref a0z), (1, .int x1z)]) hx hb dX6_seen_8 rfl hl (by decide) rfl (fun ls hl => ?_)
    refine lv_aload_nN hx hb dX6_seen_9 rfl (lv_at hl 0 rfl) ?_
    refine lv_ifnonnullN hx hb dX6_seen_10 ?_
    refine lv_iconst (v := (-1 : Int32)) hx hb dX6_seen_13 (by decide +kernel) ?_
    refine lv_goto (tgt := 21) hx hb dX6_seen_14 (by decide) ?_
    exact b21 S5 (-1 : Int32) _ _ (0 + mck1) (0 + msk1) ls hkc hks h hG (lv_sub hl [] rfl)
  · have h := h.2 q10 eq10
    refine qr_get (C := RX4) (T := TX4) (N := 8) (ci := 5) hx hb hts in5 hown hG hL8 fK9 (by decide) rfl 7 (by decide) rfl (hts (.fieldLink RX6 173 "QuayMesh$Truck" "lastSeen" "LQuayMesh$Message;") (List.mem_of_getElem? (i := 1) rfl)) (fun _ h9 => h9) (v := .ref q10) (qs_rf eq10) dX6_seen_5 ?_
    refine lv_astore_n (lv' := [(2, .ref q10), (0, .ref a0z), (1, .int x1z)]) hx hb dX6_seen_8 rfl hl (by decide) rfl (fun ls hl => ?_)
    refine lv_aload_n hx hb dX6_seen_9 rfl (lv_at hl 0 rfl) ?_
    refine lv_ifnonnull (tgt := 17) hx hb dX6_seen_10 (by decide) ?_
    refine lv_aload_n hx hb dX6_seen_17 rfl (lv_at hl 0 rfl) ?_
    obtain ⟨⟨hL11, fK12⟩, h⟩ := h
    refine qr_get (C := RX2) (T := TX2) (N := 7) (ci := 3) hx hb hts in3 hown hG hL11 fK12 (by decide) rfl 0 (by decide) rfl (hts (.fieldLink RX6 151 "QuayMesh$Message" "number" "I") (List.mem_of_getElem? (i := 2) rfl)) (fun _ h9 => h9) (v := .int (qs_I S5 0 q10)) rfl dX6_seen_18 ?_
    refine lv_topi (fun v13 ev13 => ?_)
    have h := h v13 ev13
    exact b21 S5 v13 _ _ (0 + mck1) (0 + msk1) ls hkc hks h hG (lv_sub hl [] rfl)
def wp_X6_handed (t0 m9 : Nat) (mc ms : Nat) (post : Int32 → qs_S → Prop) (px : String → qs_S → Prop) (SA : qs_S) (a0z : Nat) (x1z : Int32) : Prop := (a0z ∈ qs_L SA ∧ qs_K SA a0z = 6) ∧ (∃ q3 : Nat, qs_R SA 2 a0z = some q3 ∧ (∃ mck4 msk4 : Nat, (0 + mck4 ≤ mc ∧ 0 + msk4 ≤ ms) ∧ (wp_X6_elementOf t0 m9 mck4 msk4 (fun (o7 : Option Nat) (S6 : qs_S) => ∃ q8 : Nat, o7 = some q8 ∧ ((q8 ∈ qs_L S6 ∧ qs_K S6 q8 = 3) ∧ (∀ v11 : Int32, v11 = qs_I S6 4 q8 → post v11 S6))) px SA q3 x1z)))
set_option maxHeartbeats 4000000 in
set_option maxRecDepth 100000 in
theorem c_X6_handed (l : Launch) (hl9 : l.stackTraces = false) (g : qs_G) (sz : Nat) (SA : qs_S) (a0z : Nat) (x1z : Int32) {mc ms : Nat} {post : Int32 → qs_S → Prop} {px : String → qs_S → Prop} (h : wp_X6_handed g.2.2.2.2.2.2.1 g.2.2.2.2.2.2.2 mc ms post px SA a0z x1z) : vx_Met l yX6_handed wsX6_handed ({ frames := 8, cells := mc, slots := ms, locals := 132 } : Room) (qs_Pc g sz SA [.ref a0z, .int x1z]) (qs_Qi g (qs_F g SA sz) post) (qs_X g (qs_F g SA sz) px) mc ms (qs_F g SA sz) := by
  refine vx_ofW (cc := cX6_handed) (maxL := 2) (ret := (some .int)) (by decide +kernel) rfl ?_
  intro p e s m args below meth c s₁ B hml hnt hv
  obtain ⟨rfl, hsz, hG⟩ := qs_Gd.start hv
  subst hsz
  have hx := B.exec
  have hb := B.bytes
  have hr := B.returns
  have hts := atoms_spec (ws := wsX6_handed) B.pre
  have hown : s.vm.findClass RX6 = some m.cls := findClass_of_methodNamed B.named
  have hlk := B.notSynchronized
  have in0 : ∀ w ∈ u_ws RJx4a65c TJx4a65c 3, w ∈ wsX6_handed := fun w h => List.mem_cons_of_mem _ (List.mem_append_left _ (List.mem_append_right _ (h)))
  have in3 : ∀ w ∈ u_ws RX2 TX2 7, w ∈ wsX6_handed := fun w h => List.mem_cons_of_mem _ (List.mem_append_left _ (List.mem_append_left _ (List.mem_append_right _ (h))))
  have in6 : ∀ w ∈ u_ws RX6 TX6 8, w ∈ wsX6_handed := fun w h => List.mem_cons_of_mem _ (List.mem_append_left _ (List.mem_append_left _ (List.mem_append_left _ (List.mem_append_right _ (h)))))
  have hkc : 0 ≤ mc := Nat.zero_le _
  have hks : 0 ≤ ms := Nat.zero_le _
  have hmR : mc ≤ (headSpec wsX6_handed ({ frames := 8, cells := mc, slots := ms, locals := 132 } : Room)).room.cells := Nat.le_refl _
  have hsR : ms ≤ (headSpec wsX6_handed ({ frames := 8, cells := mc, slots := ms, locals := 132 } : Room)).room.slots := Nat.le_refl _
  have hl := lv_entry ([.ref a0z, .int x1z]) (n := 2) (Nat.le_of_ble_eq_true rfl)
  rw [lg_entry_eq]
  generalize (lg_sl ([.ref a0z, .int x1z]) ++ List.replicate (2 - (lg_sl ([.ref a0z, .int x1z])).length) Slot.unset).toArray = ls at hl ⊢
  have hl : lv_has ls 2 [(0, .ref a0z), (1, .int x1z)] := hl
  unfold wp_X6_handed at h
  refine lv_aload_n hx hb dX6_handed_0 rfl (lv_at hl 0 rfl) ?_
  obtain ⟨⟨hL1, fK2⟩, h⟩ := h
  obtain ⟨q3, eq3, h⟩ := h
  refine qr_get (C := RX6) (T := TX6) (N := 8) (ci := 6) hx hb hts in6 hown hG hL1 fK2 (by decide) rfl 2 (by decide) rfl (hts (.fieldLink RX6 19 "QuayMesh" "allMessages" "Ljava/util/ArrayList;") (List.mem_of_getElem? (i := 1) rfl)) (fun _ h9 => h9) (v := .ref q3) (qs_rf eq3) dX6_handed_1 ?_
  refine lv_iload_n hx hb dX6_handed_4 rfl (lv_at hl 1 rfl) ?_
  obtain ⟨mck4, msk4, ⟨hs5c, hs5s⟩, h⟩ := h
  refine qx_q hG (vx_runS (As := [.ref q3, .int x1z]) (rest := []) ⟨hx, hb, hml, hown, hts⟩ (c_X6_elementOf l hl9 g _ SA q3 x1z h) (va_cwS 2 hts gX6_handed_X6_elementOf rfl rfl rfl (by decide +kernel) ⟨(Nat.le_of_ble_eq_true rfl), (Nat.le_of_ble_eq_true rfl)⟩) ⟨qs_Pc.blind _ _ _ _, hG.pre _⟩ rfl rfl hl.1 rfl (lv_room (Nat.le_of_ble_eq_true rfl)) dX6_handed_5 ⟨Nat.le_trans hs5c hmR, Nat.le_trans hs5s hsR⟩) (fun E S1 H locs ce q9 hp hG h1 h2 h3 => qx_out hnt hlk hG hp h1 h2 h3 hs5c hs5s) (fun o7 S6 H locs h hG => ?_)
  have hkc := hs5c
  have hks := hs5s
  obtain ⟨q8, rfl, h⟩ := h
  obtain ⟨⟨hL9, fK10⟩, h⟩ := h
  refine qr_get (C := RX2) (T := TX2) (N := 7) (ci := 3) hx hb hts in3 hown hG hL9 fK10 (by decide) rfl 4 (by decide) rfl (hts (.fieldLink RX6 158 "QuayMesh$Message" "timesHanded" "I") (List.mem_of_getElem? (i := 2) rfl)) (fun _ h9 => h9) (v := .int (qs_I S6 4 q8)) rfl dX6_handed_8 ?_
  refine lv_topi (fun v11 ev11 => ?_)
  have h := h v11 ev11
  refine vx_ret ?_
  exact qe_i hx hb hr hlk hG h hkc hks dX6_handed_11
def wp_X6_isDone (t0 m9 : Nat) (mc ms : Nat) (post : Int32 → qs_S → Prop) (px : String → qs_S → Prop) (SA : qs_S) (a0z : Nat) (x1z : Int32) : Prop := (a0z ∈ qs_L SA ∧ qs_K SA a0z = 6) ∧ (∃ q3 : Nat, qs_R SA 2 a0z = some q3 ∧ (∃ mck4 msk4 : Nat, (0 + mck4 ≤ mc ∧ 0 + msk4 ≤ ms) ∧ (wp_X6_elementOf t0 m9 mck4 msk4 (fun (o7 : Option Nat) (S6 : qs_S) => ∃ q8 : Nat, o7 = some q8 ∧ ((q8 ∈ qs_L S6 ∧ qs_K S6 q8 = 3) ∧ (wp_X2_isMoveMade t0 m9 (fun (v14 : Int32) (S13 : qs_S) => (v14 = 0 ∨ v14 = 1) ∧ post v14 S13) S6 q8))) px SA q3 x1z)))
set_option maxHeartbeats 4000000 in
set_option maxRecDepth 100000 in
theorem c_X6_isDone (l : Launch) (hl9 : l.stackTraces = false) (g : qs_G) (sz : Nat) (SA : qs_S) (a0z : Nat) (x1z : Int32) {mc ms : Nat} {post : Int32 → qs_S → Prop} {px : String → qs_S → Prop} (h : wp_X6_isDone g.2.2.2.2.2.2.1 g.2.2.2.2.2.2.2 mc ms post px SA a0z x1z) : vx_Met l yX6_isDone wsX6_isDone ({ frames := 8, cells := mc, slots := ms, locals := 132 } : Room) (qs_Pc g sz SA [.ref a0z, .int x1z]) (qs_Qi g (qs_F g SA sz) post) (qs_X g (qs_F g SA sz) px) mc ms (qs_F g SA sz) := by
  refine vx_ofW (cc := cX6_isDone) (maxL := 2) (ret := (some .boolean)) (by decide +kernel) rfl ?_
  intro p e s m args below meth c s₁ B hml hnt hv
  obtain ⟨rfl, hsz, hG⟩ := qs_Gd.start hv
  subst hsz
  have hx := B.exec
  have hb := B.bytes
  have hr := B.returns
  have hts := atoms_spec (ws := wsX6_isDone) B.pre
  have hown : s.vm.findClass RX6 = some m.cls := findClass_of_methodNamed B.named
  have hlk := B.notSynchronized
  have in0 : ∀ w ∈ u_ws RJx4a65c TJx4a65c 3, w ∈ wsX6_isDone := fun w h => List.mem_cons_of_mem _ (List.mem_append_left _ (List.mem_append_left _ (List.mem_append_right _ (h))))
  have in3 : ∀ w ∈ u_ws RX2 TX2 7, w ∈ wsX6_isDone := fun w h => List.mem_cons_of_mem _ (List.mem_append_left _ (List.mem_append_right _ (h)))
  have in6 : ∀ w ∈ u_ws RX6 TX6 8, w ∈ wsX6_isDone := fun w h => List.mem_cons_of_mem _ (List.mem_append_left _ (List.mem_append_left _ (List.mem_append_left _ (List.mem_append_right _ (h)))))
  have hkc : 0 ≤ mc := Nat.zero_le _
  have hks : 0 ≤ ms := Nat.zero_le _
  have hmR : mc ≤ (headSpec wsX6_isDone ({ frames := 8, cells := mc, slots := ms, locals := 132 } : Room)).room.cells := Nat.le_refl _
  have hsR : ms ≤ (headSpec wsX6_isDone ({ frames := 8, cells := mc, slots := ms, locals := 132 } : Room)).room.slots := Nat.le_refl _
  have hl := lv_entry ([.ref a0z, .int x1z]) (n := 2) (Nat.le_of_ble_eq_true rfl)
  rw [lg_entry_eq]
  generalize (lg_sl ([.ref a0z, .int x1z]) ++ List.replicate (2 - (lg_sl ([.ref a0z, .int x1z])).length) Slot.unset).toArray = ls at hl ⊢
  have hl : lv_has ls 2 [(0, .ref a0z), (1, .int x1z)] := hl
  unfold wp_X6_isDone at h
  refine lv_aload_n hx hb dX6_isDone_0 rfl (lv_at hl 0 rfl) ?_
  obtain ⟨⟨hL1, fK2⟩, h⟩ := h
  obtain ⟨q3, eq3, h⟩ := h
  refine qr_get (C := RX6) (T := TX6) (N := 8) (ci := 6) hx hb hts in6 hown hG hL1 fK2 (by decide) rfl 2 (by decide) rfl (hts (.fieldLink RX6 19 "QuayMesh" "allMessages" "Ljava/util/ArrayList;") (List.mem_of_getElem? (i := 1) rfl)) (fun _ h9 => h9) (v := .ref q3) (qs_rf eq3) dX6_isDone_1 ?_
  refine lv_iload_n hx hb dX6_isDone_4 rfl (lv_at hl 1 rfl) ?_
  obtain ⟨mck4, msk4, ⟨hs5c, hs5s⟩, h⟩ := h
  refine qx_q hG (vx_runS (As := [.ref q3, .int x1z]) (rest := []) ⟨hx, hb, hml, hown, hts⟩ (c_X6_elementOf l hl9 g _ SA q3 x1z h) (va_cwS 2 hts gX6_isDone_X6_elementOf rfl rfl rfl (by decide +kernel) ⟨(Nat.le_of_ble_eq_true rfl), (Nat.le_of_ble_eq_true rfl)⟩) ⟨qs_Pc.blind _ _ _ _, hG.pre _⟩ rfl rfl hl.1 rfl (lv_room (Nat.le_of_ble_eq_true rfl)) dX6_isDone_5 ⟨Nat.le_trans hs5c hmR, Nat.le_trans hs5s hsR⟩) (fun E S1 H locs ce q9 hp hG h1 h2 h3 => qx_out hnt hlk hG hp h1 h2 h3 hs5c hs5s) (fun o7 S6 H locs h hG => ?_)
  have hkc := hs5c
  have hks := hs5s
  obtain ⟨q8, rfl, h⟩ := h
  obtain ⟨⟨hL11, fK12⟩, h⟩ := h
  refine qc_i hG (va_runV (As := []) (rest := []) ⟨hx, hb, hml, hown, hts⟩ (c_X2_isMoveMade l g _ S6 q8 h) (cwV 0 hts gX6_isDone_X2_isMoveMade rfl rfl rfl (by decide +kernel) ⟨(Nat.le_of_ble_eq_true rfl), (Nat.le_of_ble_eq_true rfl)⟩) ⟨qs_Pc.blind _ _ _ _, hG.recv hL11 fK12 (by decide) rfl, hG.pre _⟩ rfl rfl hl.1 rfl (lv_room (Nat.le_of_ble_eq_true rfl)) dX6_isDone_8 ⟨Nat.le_trans hkc hmR, Nat.le_trans hks hsR⟩) (fun v14 S13 H locs h hG => ?_)
  refine vx_ret ?_
  obtain ⟨z15, h⟩ := h
  exact qe_z hx hb hr hlk z15 hG h hkc hks dX6_isDone_11
def wp_X6_moves (t0 m9 : Nat) (post : Int32 → qs_S → Prop) (SA : qs_S) (a0z : Nat) : Prop := (a0z ∈ qs_L SA ∧ qs_K SA a0z = 6) ∧ (∃ q3 : Nat, qs_R SA 3 a0z = some q3 ∧ ((q3 ∈ qs_L SA ∧ qs_K SA q3 = 0) ∧ (wp_Jx4a65c_size_8abf5 t0 m9 (fun (v9 : Int32) (S8 : qs_S) => post v9 S8) SA q3)))
set_option maxHeartbeats 4000000 in
set_option maxRecDepth 100000 in
theorem c_X6_moves (l : Launch) (g : qs_G) (sz : Nat) (SA : qs_S) (a0z : Nat) {post : Int32 → qs_S → Prop} (h : wp_X6_moves g.2.2.2.2.2.2.1 g.2.2.2.2.2.2.2 post SA a0z) : Met l yX6_moves wsX6_moves ({ frames := 1, cells := 0, slots := 0, locals := 20 } : Room) (qs_Pc g sz SA [.ref a0z]) (qs_Qi g (qs_F g SA sz) post) 0 0 (qs_F g SA sz) := by
  refine Met.ofW (cc := cX6_moves) (maxL := 1) (ret := (some .int)) (by decide +kernel) rfl ?_
  intro p e s m args below meth c s₁ B hml hv
  obtain ⟨rfl, hsz, hG⟩ := qs_Gd.start hv
  subst hsz
  have hx := B.exec
  have hb := B.bytes
  have hr := B.returns
  have hts := atoms_spec (ws := wsX6_moves) B.pre
  have hown : s.vm.findClass RX6 = some m.cls := findClass_of_methodNamed B.named
  have hlk := B.notSynchronized
  have in0 : ∀ w ∈ u_ws RJx4a65c TJx4a65c 3, w ∈ wsX6_moves := fun w h => List.mem_cons_of_mem _ (List.mem_append_right _ (h))
  have in6 : ∀ w ∈ u_ws RX6 TX6 8, w ∈ wsX6_moves := fun w h => List.mem_cons_of_mem _ (List.mem_append_left _ (List.mem_append_right _ (h)))
  have hl := lv_entry ([.ref a0z]) (n := 1) (Nat.le_of_ble_eq_true rfl)
  rw [lg_entry_eq]
  generalize (lg_sl ([.ref a0z]) ++ List.replicate (1 - (lg_sl ([.ref a0z])).length) Slot.unset).toArray = ls at hl ⊢
  have hl : lv_has ls 1 [(0, .ref a0z)] := hl
  unfold wp_X6_moves at h
  refine lv_aload_n hx hb dX6_moves_0 rfl (lv_at hl 0 rfl) ?_
  obtain ⟨⟨hL1, fK2⟩, h⟩ := h
  obtain ⟨q3, eq3, h⟩ := h
  refine qr_get (C := RX6) (T := TX6) (N := 8) (ci := 6) hx hb hts in6 hown hG hL1 fK2 (by decide) rfl 3 (by decide) rfl (hts (.fieldLink RX6 22 "QuayMesh" "log" "Ljava/util/ArrayList;") (List.mem_of_getElem? (i := 1) rfl)) (fun _ h9 => h9) (v := .ref q3) (qs_rf eq3) dX6_moves_1 ?_
  obtain ⟨⟨hL6, fK7⟩, h⟩ := h
  refine qc_i hG (va_runV (As := []) (rest := []) ⟨hx, hb, hml, hown, hts⟩ (c_Jx4a65c_size_8abf5 l g _ SA q3 h) (cwV 0 hts gX6_moves_Jx4a65c_size_8abf5 rfl rfl rfl (by decide +kernel) ⟨(Nat.le_of_ble_eq_true rfl), (Nat.le_of_ble_eq_true rfl)⟩) ⟨qs_Pc.blind _ _ _ _, hG.recv hL6 fK7 (by decide) rfl, hG.pre _⟩ rfl rfl hl.1 rfl (lv_room (Nat.le_of_ble_eq_true rfl)) dX6_moves_4 ⟨Nat.zero_le _, Nat.zero_le _⟩) (fun v9 S8 H locs h hG => ?_)
  exact qe_i hx hb hr hlk hG h (Nat.le_refl _) (Nat.le_refl _) dX6_moves_7
def wp_X6_moveAt (t0 m9 : Nat) (mc ms : Nat) (post : Int32 → qs_S → Prop) (px : String → qs_S → Prop) (SA : qs_S) (a0z : Nat) (x1z : Int32) : Prop := (a0z ∈ qs_L SA ∧ qs_K SA a0z = 6) ∧ (∃ q3 : Nat, qs_R SA 3 a0z = some q3 ∧ (∃ mck4 msk4 : Nat, (0 + mck4 ≤ mc ∧ 0 + msk4 ≤ ms) ∧ (wp_X6_elementOf t0 m9 mck4 msk4 (fun (o7 : Option Nat) (S6 : qs_S) => ∃ q8 : Nat, o7 = some q8 ∧ ((q8 ∈ qs_L S6 ∧ qs_K S6 q8 = 3) ∧ (∀ v11 : Int32, v11 = qs_I S6 0 q8 → post v11 S6))) px SA q3 x1z)))
set_option maxHeartbeats 4000000 in
set_option maxRecDepth 100000 in
theorem c_X6_moveAt (l : Launch) (hl9 : l.stackTraces = false) (g : qs_G) (sz : Nat) (SA : qs_S) (a0z : Nat) (x1z : Int32) {mc ms : Nat} {post : Int32 → qs_S → Prop} {px : String → qs_S → Prop} (h : wp_X6_moveAt g.2.2.2.2.2.2.1 g.2.2.2.2.2.2.2 mc ms post px SA a0z x1z) : vx_Met l yX6_moveAt wsX6_moveAt ({ frames := 8, cells := mc, slots := ms, locals := 132 } : Room) (qs_Pc g sz SA [.ref a0z, .int x1z]) (qs_Qi g (qs_F g SA sz) post) (qs_X g (qs_F g SA sz) px) mc ms (qs_F g SA sz) := by
  refine vx_ofW (cc := cX6_moveAt) (maxL := 2) (ret := (some .int)) (by decide +kernel) rfl ?_
  intro p e s m args below meth c s₁ B hml hnt hv
  obtain ⟨rfl, hsz, hG⟩ := qs_Gd.start hv
  subst hsz
  have hx := B.exec
  have hb := B.bytes
  have hr := B.returns
  have hts := atoms_spec (ws := wsX6_moveAt) B.pre
  have hown : s.vm.findClass RX6 = some m.cls := findClass_of_methodNamed B.named
  have hlk := B.notSynchronized
  have in0 : ∀ w ∈ u_ws RJx4a65c TJx4a65c 3, w ∈ wsX6_moveAt := fun w h => List.mem_cons_of_mem _ (List.mem_append_left _ (List.mem_append_right _ (h)))
  have in3 : ∀ w ∈ u_ws RX2 TX2 7, w ∈ wsX6_moveAt := fun w h => List.mem_cons_of_mem _ (List.mem_append_left _ (List.mem_append_left _ (List.mem_append_right _ (h))))
  have in6 : ∀ w ∈ u_ws RX6 TX6 8, w ∈ wsX6_moveAt := fun w h => List.mem_cons_of_mem _ (List.mem_append_left _ (List.mem_append_left _ (List.mem_append_left _ (List.mem_append_right _ (h)))))
  have hkc : 0 ≤ mc := Nat.zero_le _
  have hks : 0 ≤ ms := Nat.zero_le _
  have hmR : mc ≤ (headSpec wsX6_moveAt ({ frames := 8, cells := mc, slots := ms, locals := 132 } : Room)).room.cells := Nat.le_refl _
  have hsR : ms ≤ (headSpec wsX6_moveAt ({ frames := 8, cells := mc, slots := ms, locals := 132 } : Room)).room.slots := Nat.le_refl _
  have hl := lv_entry ([.ref a0z, .int x1z]) (n := 2) (Nat.le_of_ble_eq_true rfl)
  rw [lg_entry_eq]
  generalize (lg_sl ([.ref a0z, .int x1z]) ++ List.replicate (2 - (lg_sl ([.ref a0z, .int x1z])).length) Slot.unset).toArray = ls at hl ⊢
  have hl : lv_has ls 2 [(0, .ref a0z), (1, .int x1z)] := hl
  unfold wp_X6_moveAt at h
  refine lv_aload_n hx hb dX6_moveAt_0 rfl (lv_at hl 0 rfl) ?_
  obtain ⟨⟨hL1, fK2⟩, h⟩ := h
  obtain ⟨q3, eq3, h⟩ := h
  refine qr_get (C := RX6) (T := TX6) (N := 8) (ci := 6) hx hb hts in6 hown hG hL1 fK2 (by decide) rfl 3 (by decide) rfl (hts (.fieldLink RX6 22 "QuayMesh" "log" "Ljava/util/ArrayList;") (List.mem_of_getElem? (i := 1) rfl)) (fun _ h9 => h9) (v := .ref q3) (qs_rf eq3) dX6_moveAt_1 ?_
  refine lv_iload_n hx hb dX6_moveAt_4 rfl (lv_at hl 1 rfl) ?_
  obtain ⟨mck4, msk4, ⟨hs5c, hs5s⟩, h⟩ := h
  refine qx_q hG (vx_runS (As := [.ref q3, .int x1z]) (rest := []) ⟨hx, hb, hml, hown, hts⟩ (c_X6_elementOf l hl9 g _ SA q3 x1z h) (va_cwS 2 hts gX6_moveAt_X6_elementOf rfl rfl rfl (by decide +kernel) ⟨(Nat.le_of_ble_eq_true rfl), (Nat.le_of_ble_eq_true rfl)⟩) ⟨qs_Pc.blind _ _ _ _, hG.pre _⟩ rfl rfl hl.1 rfl (lv_room (Nat.le_of_ble_eq_true rfl)) dX6_moveAt_5 ⟨Nat.le_trans hs5c hmR, Nat.le_trans hs5s hsR⟩) (fun E S1 H locs ce q9 hp hG h1 h2 h3 => qx_out hnt hlk hG hp h1 h2 h3 hs5c hs5s) (fun o7 S6 H locs h hG => ?_)
  have hkc := hs5c
  have hks := hs5s
  obtain ⟨q8, rfl, h⟩ := h
  obtain ⟨⟨hL9, fK10⟩, h⟩ := h
  refine qr_get (C := RX2) (T := TX2) (N := 7) (ci := 3) hx hb hts in3 hown hG hL9 fK10 (by decide) rfl 0 (by decide) rfl (hts (.fieldLink RX6 151 "QuayMesh$Message" "number" "I") (List.mem_of_getElem? (i := 2) rfl)) (fun _ h9 => h9) (v := .int (qs_I S6 0 q8)) rfl dX6_moveAt_8 ?_
  refine lv_topi (fun v11 ev11 => ?_)
  have h := h v11 ev11
  refine vx_ret ?_
  exact qe_i hx hb hr hlk hG h hkc hks dX6_moveAt_11
def wp_X6_unheard (t0 m9 : Nat) (post : Int32 → qs_S → Prop) (SA : qs_S) (a0z : Nat) : Prop := (a0z ∈ qs_L SA ∧ qs_K SA a0z = 6) ∧ (∀ v3 : Int32, v3 = qs_I SA 7 a0z → ∃ q4 : Nat, qs_R SA 3 a0z = some q4 ∧ ((q4 ∈ qs_L SA ∧ qs_K SA q4 = 0) ∧ (wp_Jx4a65c_size_8abf5 t0 m9 (fun (v10 : Int32) (S9 : qs_S) => ∀ v11 : Int32, v11 = v3 - v10 → post v11 S9) SA q4)))
set_option maxHeartbeats 4000000 in
set_option maxRecDepth 100000 in
theorem c_X6_unheard (l : Launch) (g : qs_G) (sz : Nat) (SA : qs_S) (a0z : Nat) {post : Int32 → qs_S → Prop} (h : wp_X6_unheard g.2.2.2.2.2.2.1 g.2.2.2.2.2.2.2 post SA a0z) : Met l yX6_unheard wsX6_unheard ({ frames := 1, cells := 0, slots := 0, locals := 20 } : Room) (qs_Pc g sz SA [.ref a0z]) (qs_Qi g (qs_F g SA sz) post) 0 0 (qs_F g SA sz) := by
  refine Met.ofW (cc := cX6_unheard) (maxL := 1) (ret := (some .int)) (by decide +kernel) rfl ?_
  intro p e s m args below meth c s₁ B hml hv
  obtain ⟨rfl, hsz, hG⟩ := qs_Gd.start hv
  subst hsz
  have hx := B.exec
  have hb := B.bytes
  have hr := B.returns
  have hts := atoms_spec (ws := wsX6_unheard) B.pre
  have hown : s.vm.findClass RX6 = some m.cls := findClass_of_methodNamed B.named
  have hlk := B.notSynchronized
  have in0 : ∀ w ∈ u_ws RJx4a65c TJx4a65c 3, w ∈ wsX6_unheard := fun w h => List.mem_cons_of_mem _ (List.mem_append_right _ (h))
  have in6 : ∀ w ∈ u_ws RX6 TX6 8, w ∈ wsX6_unheard := fun w h => List.mem_cons_of_mem _ (List.mem_append_left _ (List.mem_append_right _ (h)))
  have hl := lv_entry ([.ref a0z]) (n := 1) (Nat.le_of_ble_eq_true rfl)
  rw [lg_entry_eq]
  generalize (lg_sl ([.ref a0z]) ++ List.replicate (1 - (lg_sl ([.ref a0z])).length) Slot.unset).toArray = ls at hl ⊢
  have hl : lv_has ls 1 [(0, .ref a0z)] := hl
  unfold wp_X6_unheard at h
  refine lv_aload_n hx hb dX6_unheard_0 rfl (lv_at hl 0 rfl) ?_
  obtain ⟨⟨hL1, fK2⟩, h⟩ := h
  refine qr_get (C := RX6) (T := TX6) (N := 8) (ci := 6) hx hb hts in6 hown hG hL1 fK2 (by decide) rfl 7 (by decide) rfl (hts (.fieldLink RX6 35 "QuayMesh" "movesMade" "I") (List.mem_of_getElem? (i := 1) rfl)) (fun _ h9 => h9) (v := .int (qs_I SA 7 a0z)) rfl dX6_unheard_1 ?_
  refine lv_topi (fun v3 ev3 => ?_)
  have h := h v3 ev3
  refine lv_aload_n hx hb dX6_unheard_4 rfl (lv_at hl 0 rfl) ?_
  obtain ⟨q4, eq4, h⟩ := h
  refine qr_get (C := RX6) (T := TX6) (N := 8) (ci := 6) hx hb hts in6 hown hG hL1 fK2 (by decide) rfl 3 (by decide) rfl (hts (.fieldLink RX6 22 "QuayMesh" "log" "Ljava/util/ArrayList;") (List.mem_of_getElem? (i := 2) rfl)) (fun _ h9 => h9) (v := .ref q4) (qs_rf eq4) dX6_unheard_5 ?_
  obtain ⟨⟨hL7, fK8⟩, h⟩ := h
  refine qc_i hG (va_runV (As := []) (rest := [.int v3]) ⟨hx, hb, hml, hown, hts⟩ (c_Jx4a65c_size_8abf5 l g _ SA q4 h) (cwV 0 hts gX6_unheard_Jx4a65c_size_8abf5 rfl rfl rfl (by decide +kernel) ⟨(Nat.le_of_ble_eq_true rfl), (Nat.le_of_ble_eq_true rfl)⟩) ⟨qs_Pc.blind _ _ _ _, hG.recv hL7 fK8 (by decide) rfl, hG.pre _⟩ rfl rfl hl.1 rfl (lv_room (Nat.le_of_ble_eq_true rfl)) dX6_unheard_8 ⟨Nat.zero_le _, Nat.zero_le _⟩) (fun v10 S9 H locs h hG => ?_)
  refine lv_isub hx hb dX6_unheard_11 ?_
  refine lv_topi (fun v11 ev11 => ?_)
  have h := h v11 ev11
  exact qe_i hx hb hr hlk hG h (Nat.le_refl _) (Nat.le_refl _) dX6_unheard_12

def wp_X0_init (t0 m9 : Nat) (post : qs_S → Prop) (SA : qs_S) (a0z : Nat) (a1z : Nat) (x2z : Int32) : Prop := (a0z ∈ qs_L SA ∧ qs_K SA a0z = 1) ∧ (∀ S3 : qs_S, S3 = qs_wR (qs_wI (qs_wI (qs_wI (qs_wI (qs_wI SA 2 a0z (0 : Int32)) 4 a0z (0 : Int32)) 5 a0z (-1 : Int32)) 6 a0z (-1 : Int32)) 7 a0z (-1 : Int32)) 0 a0z (some a1z) → post (qs_wI (qs_wI S3 1 a0z x2z) 3 a0z x2z))
set_option maxHeartbeats 4000000 in
set_option maxRecDepth 100000 in
theorem c_X0_init (l : Launch) (g : qs_G) (sz : Nat) (SA : qs_S) (a0z : Nat) (a1z : Nat) (x2z : Int32) {post : qs_S → Prop} (h : wp_X0_init g.2.2.2.2.2.2.1 g.2.2.2.2.2.2.2 post SA a0z a1z x2z) : Met l yX0_init wsX0_init ({ frames := 1, cells := 0, slots := 0, locals := 20 } : Room) (qs_Pc g sz SA [.ref a0z, .ref a1z, .int x2z]) (qs_Qv g (qs_F g SA sz) post) 0 0 (qs_F g SA sz) := by
  refine Met.ofW (cc := cX0_init) (maxL := 3) (ret := none) (by decide +kernel) rfl ?_
  intro p e s m args below meth c s₁ B hml hv
  obtain ⟨rfl, hsz, hG⟩ := qs_Gd.start hv
  subst hsz
  have hx := B.exec
  have hb := B.bytes
  have hr := B.returns
  have hts := atoms_spec (ws := wsX0_init) B.pre
  have hown : s.vm.findClass RX0 = some m.cls := findClass_of_methodNamed B.named
  have hlk := B.notSynchronized
  have hin9 : meth.name = "<init>" := (name_of_methodNamed B.named B.method).1
  have in1 : ∀ w ∈ u_ws RX0 TX0 8, w ∈ wsX0_init := fun w h => List.mem_cons_of_mem _ (List.mem_append_right _ (h))
  have hl := lv_entry ([.ref a0z, .ref a1z, .int x2z]) (n := 3) (Nat.le_of_ble_eq_true rfl)
  rw [lg_entry_eq]
  generalize (lg_sl ([.ref a0z, .ref a1z, .int x2z]) ++ List.replicate (3 - (lg_sl ([.ref a0z, .ref a1z, .int x2z])).length) Slot.unset).toArray = ls at hl ⊢
  have hl : lv_has ls 3 [(0, .ref a0z), (1, .ref a1z), (2, .int x2z)] := hl
  unfold wp_X0_init at h
  refine lv_aload_n hx hb dX0_init_0 rfl (lv_at hl 0 rfl) ?_
  refine W.objInit hx hb hown (hts (.methodLink RX0 3 objectInit) (List.mem_of_getElem? (i := 1) rfl)) (hts (.instanceMethod objectInit) (List.mem_of_getElem? (i := 2) rfl)) (hts (.code objectInit ⟨#[0xb1]⟩ 1 none) (List.mem_of_getElem? (i := 3) rfl)) rfl (hl.1.trans hml.symm) rfl dX0_init_1 (Nat.le_of_ble_eq_true rfl) (Nat.le_of_ble_eq_true rfl) ?_
  refine W.eq (g2 := F0 m 4 ls []) rfl ?_
  refine lv_aload_n hx hb dX0_init_4 rfl (lv_at hl 0 rfl) ?_
  refine lv_iconst (v := (0 : Int32)) hx hb dX0_init_5 (by decide +kernel) ?_
  obtain ⟨⟨hL1, fK2⟩, h⟩ := h
  refine qr_putI (C := RX0) (T := TX0) (N := 8) (ci := 1) hx hb hts in1 tyX0 tyX0_ok nmX0 hown hG hL1 fK2 (by decide) rfl 2 (by decide) rfl (hts (.fieldLink RX0 9 "QuayMesh$Box" "where" "I") (List.mem_of_getElem? (i := 4) rfl)) (fun _ h9 => h9) rfl (x := (0 : Int32)) (tyX0_ok 2 (by decide)) rfl rfl dX0_init_6 (fun H locs hG => ?_)
  refine lv_aload_n hx hb dX0_init_9 rfl (lv_at hl 0 rfl) ?_
  refine lv_iconst (v := (0 : Int32)) hx hb dX0_init_10 (by decide +kernel) ?_
  refine qr_putI (C := RX0) (T := TX0) (N := 8) (ci := 1) hx hb hts in1 tyX0 tyX0_ok nmX0 hown hG hL1 fK2 (by decide) rfl 4 (by decide) rfl (hts (.fieldLink RX0 15 "QuayMesh$Box" "level" "I") (List.mem_of_getElem? (i := 5) rfl)) (fun _ h9 => h9) rfl (x := (0 : Int32)) (tyX0_ok 4 (by decide)) rfl rfl dX0_init_11 (fun H locs hG => ?_)
  refine lv_aload_n hx hb dX0_init_14 rfl (lv_at hl 0 rfl) ?_
  refine lv_iconst (v := (-1 : Int32)) hx hb dX0_init_15 (by decide +kernel) ?_
  refine qr_putI (C := RX0) (T := TX0) (N := 8) (ci := 1) hx hb hts in1 tyX0 tyX0_ok nmX0 hown hG hL1 fK2 (by decide) rfl 5 (by decide) rfl (hts (.fieldLink RX0 18 "QuayMesh$Box" "lifter" "I") (List.mem_of_getElem? (i := 6) rfl)) (fun _ h9 => h9) rfl (x := (-1 : Int32)) (tyX0_ok 5 (by decide)) rfl rfl dX0_init_16 (fun H locs hG => ?_)
  refine lv_aload_n hx hb dX0_init_19 rfl (lv_at hl 0 rfl) ?_
  refine lv_iconst (v := (-1 : Int32)) hx hb dX0_init_20 (by decide +kernel) ?_
  refine qr_putI (C := RX0) (T := TX0) (N := 8) (ci := 1) hx hb hts in1 tyX0 tyX0_ok nmX0 hown hG hL1 fK2 (by decide) rfl 6 (by decide) rfl (hts (.fieldLink RX0 21 "QuayMesh$Box" "bookedGate" "I") (List.mem_of_getElem? (i := 7) rfl)) (fun _ h9 => h9) rfl (x := (-1 : Int32)) (tyX0_ok 6 (by decide)) rfl rfl dX0_init_21 (fun H locs hG => ?_)
  refine lv_aload_n hx hb dX0_init_24 rfl (lv_at hl 0 rfl) ?_
  refine lv_iconst (v := (-1 : Int32)) hx hb dX0_init_25 (by decide +kernel) ?_
  refine qr_putI (C := RX0) (T := TX0) (N := 8) (ci := 1) hx hb hts in1 tyX0 tyX0_ok nmX0 hown hG hL1 fK2 (by decide) rfl 7 (by decide) rfl (hts (.fieldLink RX0 24 "QuayMesh$Box" "bookedHour" "I") (List.mem_of_getElem? (i := 8) rfl)) (fun _ h9 => h9) rfl (x := (-1 : Int32)) (tyX0_ok 7 (by decide)) rfl rfl dX0_init_26 (fun H locs hG => ?_)
  refine lv_aload_n hx hb dX0_init_29 rfl (lv_at hl 0 rfl) ?_
  refine lv_aload_n hx hb dX0_init_30 rfl (lv_at hl 1 rfl) ?_
  refine qr_putRF (C := RX0) (T := TX0) (N := 8) (ci := 1) hx hb hts in1 tyX0 tyX0_ok nmX0 hown hG hL1 fK2 (by decide) rfl 0 (by decide) rfl (hts (.fieldLink RX0 27 "QuayMesh$Box" "ship" "LQuayMesh$Ship;") (List.mem_of_getElem? (i := 9) rfl)) (fun _ h9 => h9) rfl hin9 rfl (x := some a1z) rfl (tyX0_ok 0 (by decide)) rfl rfl dX0_init_31 (fun H locs hG => ?_)
  obtain ⟨S3, eS3⟩ : ∃ z : qs_S, z = qs_wR (qs_wI (qs_wI (qs_wI (qs_wI (qs_wI SA 2 a0z (0 : Int32)) 4 a0z (0 : Int32)) 5 a0z (-1 : Int32)) 6 a0z (-1 : Int32)) 7 a0z (-1 : Int32)) 0 a0z (some a1z) := ⟨_, rfl⟩
  have h := h S3 eS3
  rw [← eS3] at hG
  have hL4 : a0z ∈ qs_L S3 := by rw [eS3]; exact hL1
  have fK5 : qs_K S3 a0z = 1 := by rw [eS3]; exact fK2
  refine lv_aload_n hx hb dX0_init_34 rfl (lv_at hl 0 rfl) ?_
  refine lv_iload_n hx hb dX0_init_35 rfl (lv_at hl 2 rfl) ?_
  refine qr_putIF (C := RX0) (T := TX0) (N := 8) (ci := 1) hx hb hts in1 tyX0 tyX0_ok nmX0 hown hG hL4 fK5 (by decide) rfl 1 (by decide) rfl (hts (.fieldLink RX0 31 "QuayMesh$Box" "place" "I") (List.mem_of_getElem? (i := 10) rfl)) (fun _ h9 => h9) rfl hin9 rfl (x := x2z) (tyX0_ok 1 (by decide)) rfl rfl dX0_init_36 (fun H locs hG => ?_)
  refine lv_aload_n hx hb dX0_init_39 rfl (lv_at hl 0 rfl) ?_
  refine lv_iload_n hx hb dX0_init_40 rfl (lv_at hl 2 rfl) ?_
  refine qr_putI (C := RX0) (T := TX0) (N := 8) (ci := 1) hx hb hts in1 tyX0 tyX0_ok nmX0 hown hG hL4 fK5 (by decide) rfl 3 (by decide) rfl (hts (.fieldLink RX0 34 "QuayMesh$Box" "spot" "I") (List.mem_of_getElem? (i := 11) rfl)) (fun _ h9 => h9) rfl (x := x2z) (tyX0_ok 3 (by decide)) rfl rfl dX0_init_41 (fun H locs hG => ?_)
  exact qe_v hx hb hr hlk hG h (Nat.le_refl _) (Nat.le_refl _) dX0_init_44
def wp_X0_bring (t0 m9 : Nat) (post : qs_S → Prop) (SA : qs_S) (a0z : Nat) (x1z : Int32) (x2z : Int32) : Prop := (a0z ∈ qs_L SA ∧ qs_K SA a0z = 1) ∧ (post (qs_wI (qs_wI SA 2 a0z x1z) 3 a0z x2z))
set_option maxHeartbeats 4000000 in
set_option maxRecDepth 100000 in
theorem c_X0_bring (l : Launch) (g : qs_G) (sz : Nat) (SA : qs_S) (a0z : Nat) (x1z : Int32) (x2z : Int32) {post : qs_S → Prop} (h : wp_X0_bring g.2.2.2.2.2.2.1 g.2.2.2.2.2.2.2 post SA a0z x1z x2z) : Met l yX0_bring wsX0_bring ({ frames := 0, cells := 0, slots := 0, locals := 0 } : Room) (qs_Pc g sz SA [.ref a0z, .int x1z, .int x2z]) (qs_Qv g (qs_F g SA sz) post) 0 0 (qs_F g SA sz) := by
  refine Met.ofW (cc := cX0_bring) (maxL := 3) (ret := none) (by decide +kernel) rfl ?_
  intro p e s m args below meth c s₁ B hml hv
  obtain ⟨rfl, hsz, hG⟩ := qs_Gd.start hv
  subst hsz
  have hx := B.exec
  have hb := B.bytes
  have hr := B.returns
  have hts := atoms_spec (ws := wsX0_bring) B.pre
  have hown : s.vm.findClass RX0 = some m.cls := findClass_of_methodNamed B.named
  have hlk := B.notSynchronized
  have in1 : ∀ w ∈ u_ws RX0 TX0 8, w ∈ wsX0_bring := fun w h => List.mem_cons_of_mem _ (List.mem_append_right _ (h))
  have hl := lv_entry ([.ref a0z, .int x1z, .int x2z]) (n := 3) (Nat.le_of_ble_eq_true rfl)
  rw [lg_entry_eq]
  generalize (lg_sl ([.ref a0z, .int x1z, .int x2z]) ++ List.replicate (3 - (lg_sl ([.ref a0z, .int x1z, .int x2z])).length) Slot.unset).toArray = ls at hl ⊢
  have hl : lv_has ls 3 [(0, .ref a0z), (1, .int x1z), (2, .int x2z)] := hl
  unfold wp_X0_bring at h
  refine lv_aload_n hx hb dX0_bring_0 rfl (lv_at hl 0 rfl) ?_
  refine lv_iload_n hx hb dX0_bring_1 rfl (lv_at hl 1 rfl) ?_
  obtain ⟨⟨hL1, fK2⟩, h⟩ := h
  refine qr_putI (C := RX0) (T := TX0) (N := 8) (ci := 1) hx hb hts in1 tyX0 tyX0_ok nmX0 hown hG hL1 fK2 (by decide) rfl 2 (by decide) rfl (hts (.fieldLink RX0 9 "QuayMesh$Box" "where" "I") (List.mem_of_getElem? (i := 1) rfl)) (fun _ h9 => h9) rfl (x := x1z) (tyX0_ok 2 (by decide)) rfl rfl dX0_bring_2 (fun H locs hG => ?_)
  refine lv_aload_n hx hb dX0_bring_5 rfl (lv_at hl 0 rfl) ?_
  refine lv_iload_n hx hb dX0_bring_6 rfl (lv_at hl 2 rfl) ?_
  refine qr_putI (C := RX0) (T := TX0) (N := 8) (ci := 1) hx hb hts in1 tyX0 tyX0_ok nmX0 hown hG hL1 fK2 (by decide) rfl 3 (by decide) rfl (hts (.fieldLink RX0 34 "QuayMesh$Box" "spot" "I") (List.mem_of_getElem? (i := 2) rfl)) (fun _ h9 => h9) rfl (x := x2z) (tyX0_ok 3 (by decide)) rfl rfl dX0_bring_7 (fun H locs hG => ?_)
  exact qe_v hx hb hr hlk hG h (Nat.le_refl _) (Nat.le_refl _) dX0_bring_10
def wp_X0_isAt_b21 (t0 m9 : Nat) (post : Int32 → qs_S → Prop) (S : qs_S) (s0 : Int32) : Prop := (s0 = 0 ∨ s0 = 1) ∧ post s0 S
def wp_X0_isAt_b20 (t0 m9 : Nat) (post : Int32 → qs_S → Prop) (S : qs_S) : Prop := wp_X0_isAt_b21 t0 m9 post S (0 : Int32)
def wp_X0_isAt (t0 m9 : Nat) (post : Int32 → qs_S → Prop) (SA : qs_S) (a0z : Nat) (x1z : Int32) (x2z : Int32) : Prop := (a0z ∈ qs_L SA ∧ qs_K SA a0z = 1) ∧ (∀ v4 : Int32, v4 = qs_I SA 2 a0z → (¬ v4 = x1z → (wp_X0_isAt_b20 t0 m9 post SA)) ∧ (v4 = x1z → (∀ v6 : Int32, v6 = qs_I SA 3 a0z → (¬ v6 = x2z → (wp_X0_isAt_b20 t0 m9 post SA)) ∧ (v6 = x2z → (wp_X0_isAt_b21 t0 m9 post SA (1 : Int32))))))
set_option maxHeartbeats 4000000 in
set_option maxRecDepth 100000 in
theorem c_X0_isAt (l : Launch) (g : qs_G) (sz : Nat) (SA : qs_S) (a0z : Nat) (x1z : Int32) (x2z : Int32) {post : Int32 → qs_S → Prop} (h : wp_X0_isAt g.2.2.2.2.2.2.1 g.2.2.2.2.2.2.2 post SA a0z x1z x2z) : Met l yX0_isAt wsX0_isAt ({ frames := 0, cells := 0, slots := 0, locals := 0 } : Room) (qs_Pc g sz SA [.ref a0z, .int x1z, .int x2z]) (qs_Qi g (qs_F g SA sz) post) 0 0 (qs_F g SA sz) := by
  refine Met.ofW (cc := cX0_isAt) (maxL := 3) (ret := (some .boolean)) (by decide +kernel) rfl ?_
  intro p e s m args below meth c s₁ B hml hv
  obtain ⟨rfl, hsz, hG⟩ := qs_Gd.start hv
  subst hsz
  have hx := B.exec
  have hb := B.bytes
  have hr := B.returns
  have hts := atoms_spec (ws := wsX0_isAt) B.pre
  have hown : s.vm.findClass RX0 = some m.cls := findClass_of_methodNamed B.named
  have hlk := B.notSynchronized
  have in1 : ∀ w ∈ u_ws RX0 TX0 8, w ∈ wsX0_isAt := fun w h => List.mem_cons_of_mem _ (List.mem_append_right _ (h))
  have b21 : ∀ (S : qs_S) (s0 : Int32) (H : Heap) (locs : List Loc) (ls : Array Slot), wp_X0_isAt_b21 g.2.2.2.2.2.2.1 g.2.2.2.2.2.2.2 post S s0 → qs_Gd g (qs_F g SA s.heap.size) s S H locs → lv_has ls 3 [] → W p l e (headSpec wsX0_isAt ({ frames := 0, cells := 0, slots := 0, locals := 0 } : Room)).room s m (([.ref a0z, .int x1z, .int x2z] : List Value)).toArray below meth c H locs 0 0 (MQ below (qs_Qi g (qs_F g SA s.heap.size) post) (([.ref a0z, .int x1z, .int x2z] : List Value)).toArray s 0 0 (qs_F g SA s.heap.size)) (F0 m 21 ls [.int s0]) := by
    intro S s0 H locs ls h hG hl
    unfold wp_X0_isAt_b21 at h
    obtain ⟨z1, h⟩ := h
    exact qe_z hx hb hr hlk z1 hG h (Nat.le_refl _) (Nat.le_refl _) dX0_isAt_21
  have b20 : ∀ (S : qs_S) (H : Heap) (locs : List Loc) (ls : Array Slot), wp_X0_isAt_b20 g.2.2.2.2.2.2.1 g.2.2.2.2.2.2.2 post S → qs_Gd g (qs_F g SA s.heap.size) s S H locs → lv_has ls 3 [] → W p l e (headSpec wsX0_isAt ({ frames := 0, cells := 0, slots := 0, locals := 0 } : Room)).room s m (([.ref a0z, .int x1z, .int x2z] : List Value)).toArray below meth c H locs 0 0 (MQ below (qs_Qi g (qs_F g SA s.heap.size) post) (([.ref a0z, .int x1z, .int x2z] : List Value)).toArray s 0 0 (qs_F g SA s.heap.size)) (F0 m 20 ls []) := by
    intro S H locs ls h hG hl
    unfold wp_X0_isAt_b20 at h
    refine lv_iconst (v := (0 : Int32)) hx hb dX0_isAt_20 (by decide +kernel) ?_
    exact b21 S (0 : Int32) _ _ ls h hG (lv_sub hl [] rfl)
  have hl := lv_entry ([.ref a0z, .int x1z, .int x2z]) (n := 3) (Nat.le_of_ble_eq_true rfl)
  rw [lg_entry_eq]
  generalize (lg_sl ([.ref a0z, .int x1z, .int x2z]) ++ List.replicate (3 - (lg_sl ([.ref a0z, .int x1z, .int x2z])).length) Slot.unset).toArray = ls at hl ⊢
  have hl : lv_has ls 3 [(0, .ref a0z), (1, .int x1z), (2, .int x2z)] := hl
  unfold wp_X0_isAt at h
  refine lv_aload_n hx hb dX0_isAt_0 rfl (lv_at hl 0 rfl) ?_
  obtain ⟨⟨hL2, fK3⟩, h⟩ := h
  refine qr_get (C := RX0) (T := TX0) (N := 8) (ci := 1) hx hb hts in1 hown hG hL2 fK3 (by decide) rfl 2 (by decide) rfl (hts (.fieldLink RX0 9 "QuayMesh$Box" "where" "I") (List.mem_of_getElem? (i := 1) rfl)) (fun _ h9 => h9) (v := .int (qs_I SA 2 a0z)) rfl dX0_isAt_1 ?_
  refine lv_topi (fun v4 ev4 => ?_)
  have h := h v4 ev4
  refine lv_iload_n hx hb dX0_isAt_4 rfl (lv_at hl 1 rfl) ?_
  refine lv_icmp_ne (tgt := 20) hx hb dX0_isAt_5 (by decide) (fun c5 => ?_) (fun c5 => ?_)
  · have h := h.1 c5
    exact b20 SA _ _ ls h hG (lv_sub hl [] rfl)
  · have h := h.2 c5
    refine lv_aload_n hx hb dX0_isAt_8 rfl (lv_at hl 0 rfl) ?_
    refine qr_get (C := RX0) (T := TX0) (N := 8) (ci := 1) hx hb hts in1 hown hG hL2 fK3 (by decide) rfl 3 (by decide) rfl (hts (.fieldLink RX0 34 "QuayMesh$Box" "spot" "I") (List.mem_of_getElem? (i := 2) rfl)) (fun _ h9 => h9) (v := .int (qs_I SA 3 a0z)) rfl dX0_isAt_9 ?_
    refine lv_topi (fun v6 ev6 => ?_)
    have h := h v6 ev6
    refine lv_iload_n hx hb dX0_isAt_12 rfl (lv_at hl 2 rfl) ?_
    refine lv_icmp_ne (tgt := 20) hx hb dX0_isAt_13 (by decide) (fun c7 => ?_) (fun c7 => ?_)
    · have h := h.1 c7
      exact b20 SA _ _ ls h hG (lv_sub hl [] rfl)
    · have h := h.2 c7
      refine lv_iconst (v := (1 : Int32)) hx hb dX0_isAt_16 (by decide +kernel) ?_
      refine lv_goto (tgt := 21) hx hb dX0_isAt_17 (by decide) ?_
      exact b21 SA (1 : Int32) _ _ ls h hG (lv_sub hl [] rfl)
def wp_X0_isBooked_b13 (t0 m9 : Nat) (post : Int32 → qs_S → Prop) (S : qs_S) (s0 : Int32) : Prop := (s0 = 0 ∨ s0 = 1) ∧ post s0 S
def wp_X0_isBooked (t0 m9 : Nat) (post : Int32 → qs_S → Prop) (SA : qs_S) (a0z : Nat) : Prop := (a0z ∈ qs_L SA ∧ qs_K SA a0z = 1) ∧ (∀ v4 : Int32, v4 = qs_I SA 7 a0z → (v4 = (-1 : Int32) → (wp_X0_isBooked_b13 t0 m9 post SA (0 : Int32))) ∧ (¬ v4 = (-1 : Int32) → (wp_X0_isBooked_b13 t0 m9 post SA (1 : Int32))))
set_option maxHeartbeats 4000000 in
set_option maxRecDepth 100000 in
theorem c_X0_isBooked (l : Launch) (g : qs_G) (sz : Nat) (SA : qs_S) (a0z : Nat) {post : Int32 → qs_S → Prop} (h : wp_X0_isBooked g.2.2.2.2.2.2.1 g.2.2.2.2.2.2.2 post SA a0z) : Met l yX0_isBooked wsX0_isBooked ({ frames := 0, cells := 0, slots := 0, locals := 0 } : Room) (qs_Pc g sz SA [.ref a0z]) (qs_Qi g (qs_F g SA sz) post) 0 0 (qs_F g SA sz) := by
  refine Met.ofW (cc := cX0_isBooked) (maxL := 1) (ret := (some .boolean)) (by decide +kernel) rfl ?_
  intro p e s m args below meth c s₁ B hml hv
  obtain ⟨rfl, hsz, hG⟩ := qs_Gd.start hv
  subst hsz
  have hx := B.exec
  have hb := B.bytes
  have hr := B.returns
  have hts := atoms_spec (ws := wsX0_isBooked) B.pre
  have hown : s.vm.findClass RX0 = some m.cls := findClass_of_methodNamed B.named
  have hlk := B.notSynchronized
  have in1 : ∀ w ∈ u_ws RX0 TX0 8, w ∈ wsX0_isBooked := fun w h => List.mem_cons_of_mem _ (List.mem_append_right _ (h))
  have b13 : ∀ (S : qs_S) (s0 : Int32) (H : Heap) (locs : List Loc) (ls : Array Slot), wp_X0_isBooked_b13 g.2.2.2.2.2.2.1 g.2.2.2.2.2.2.2 post S s0 → qs_Gd g (qs_F g SA s.heap.size) s S H locs → lv_has ls 1 [] → W p l e (headSpec wsX0_isBooked ({ frames := 0, cells := 0, slots := 0, locals := 0 } : Room)).room s m (([.ref a0z] : List Value)).toArray below meth c H locs 0 0 (MQ below (qs_Qi g (qs_F g SA s.heap.size) post) (([.ref a0z] : List Value)).toArray s 0 0 (qs_F g SA s.heap.size)) (F0 m 13 ls [.int s0]) := by
    intro S s0 H locs ls h hG hl
    unfold wp_X0_isBooked_b13 at h
    obtain ⟨z1, h⟩ := h
    exact qe_z hx hb hr hlk z1 hG h (Nat.le_refl _) (Nat.le_refl _) dX0_isBooked_13
  have hl := lv_entry ([.ref a0z]) (n := 1) (Nat.le_of_ble_eq_true rfl)
  rw [lg_entry_eq]
  generalize (lg_sl ([.ref a0z]) ++ List.replicate (1 - (lg_sl ([.ref a0z])).length) Slot.unset).toArray = ls at hl ⊢
  have hl : lv_has ls 1 [(0, .ref a0z)] := hl
  unfold wp_X0_isBooked at h
  refine lv_aload_n hx hb dX0_isBooked_0 rfl (lv_at hl 0 rfl) ?_
  obtain ⟨⟨hL2, fK3⟩, h⟩ := h
  refine qr_get (C := RX0) (T := TX0) (N := 8) (ci := 1) hx hb hts in1 hown hG hL2 fK3 (by decide) rfl 7 (by decide) rfl (hts (.fieldLink RX0 24 "QuayMesh$Box" "bookedHour" "I") (List.mem_of_getElem? (i := 1) rfl)) (fun _ h9 => h9) (v := .int (qs_I SA 7 a0z)) rfl dX0_isBooked_1 ?_
  refine lv_topi (fun v4 ev4 => ?_)
  have h := h v4 ev4
  refine lv_iconst (v := (-1 : Int32)) hx hb dX0_isBooked_4 (by decide +kernel) ?_
  refine lv_icmp_eq (tgt := 12) hx hb dX0_isBooked_5 (by decide) (fun c5 => ?_) (fun c5 => ?_)
  · have h := h.1 c5
    refine lv_iconst (v := (0 : Int32)) hx hb dX0_isBooked_12 (by decide +kernel) ?_
    exact b13 SA (0 : Int32) _ _ ls h hG (lv_sub hl [] rfl)
  · have h := h.2 c5
    refine lv_iconst (v := (1 : Int32)) hx hb dX0_isBooked_8 (by decide +kernel) ?_
    refine lv_goto (tgt := 13) hx hb dX0_isBooked_9 (by decide) ?_
    exact b13 SA (1 : Int32) _ _ ls h hG (lv_sub hl [] rfl)
def wp_X0_isBookedAt_b21 (t0 m9 : Nat) (post : Int32 → qs_S → Prop) (S : qs_S) (s0 : Int32) : Prop := (s0 = 0 ∨ s0 = 1) ∧ post s0 S
def wp_X0_isBookedAt_b20 (t0 m9 : Nat) (post : Int32 → qs_S → Prop) (S : qs_S) : Prop := wp_X0_isBookedAt_b21 t0 m9 post S (0 : Int32)
def wp_X0_isBookedAt (t0 m9 : Nat) (post : Int32 → qs_S → Prop) (SA : qs_S) (a0z : Nat) (x1z : Int32) (x2z : Int32) : Prop := (a0z ∈ qs_L SA ∧ qs_K SA a0z = 1) ∧ (∀ v4 : Int32, v4 = qs_I SA 6 a0z → (¬ v4 = x1z → (wp_X0_isBookedAt_b20 t0 m9 post SA)) ∧ (v4 = x1z → (∀ v6 : Int32, v6 = qs_I SA 7 a0z → (¬ v6 = x2z → (wp_X0_isBookedAt_b20 t0 m9 post SA)) ∧ (v6 = x2z → (wp_X0_isBookedAt_b21 t0 m9 post SA (1 : Int32))))))
set_option maxHeartbeats 4000000 in
set_option maxRecDepth 100000 in
theorem c_X0_isBookedAt (l : Launch) (g : qs_G) (sz : Nat) (SA : qs_S) (a0z : Nat) (x1z : Int32) (x2z : Int32) {post : Int32 → qs_S → Prop} (h : wp_X0_isBookedAt g.2.2.2.2.2.2.1 g.2.2.2.2.2.2.2 post SA a0z x1z x2z) : Met l yX0_isBookedAt wsX0_isBookedAt ({ frames := 0, cells := 0, slots := 0, locals := 0 } : Room) (qs_Pc g sz SA [.ref a0z, .int x1z, .int x2z]) (qs_Qi g (qs_F g SA sz) post) 0 0 (qs_F g SA sz) := by
  refine Met.ofW (cc := cX0_isBookedAt) (maxL := 3) (ret := (some .boolean)) (by decide +kernel) rfl ?_
  intro p e s m args below meth c s₁ B hml hv
  obtain ⟨rfl, hsz, hG⟩ := qs_Gd.start hv
  subst hsz
  have hx := B.exec
  have hb := B.bytes
  have hr := B.returns
  have hts := atoms_spec (ws := wsX0_isBookedAt) B.pre
  have hown : s.vm.findClass RX0 = some m.cls := findClass_of_methodNamed B.named
  have hlk := B.notSynchronized
  have in1 : ∀ w ∈ u_ws RX0 TX0 8, w ∈ wsX0_isBookedAt := fun w h => List.mem_cons_of_mem _ (List.mem_append_right _ (h))
  have b21 : ∀ (S : qs_S) (s0 : Int32) (H : Heap) (locs : List Loc) (ls : Array Slot), wp_X0_isBookedAt_b21 g.2.2.2.2.2.2.1 g.2.2.2.2.2.2.2 post S s0 → qs_Gd g (qs_F g SA s.heap.size) s S H locs → lv_has ls 3 [] → W p l e (headSpec wsX0_isBookedAt ({ frames := 0, cells := 0, slots := 0, locals := 0 } : Room)).room s m (([.ref a0z, .int x1z, .int x2z] : List Value)).toArray below meth c H locs 0 0 (MQ below (qs_Qi g (qs_F g SA s.heap.size) post) (([.ref a0z, .int x1z, .int x2z] : List Value)).toArray s 0 0 (qs_F g SA s.heap.size)) (F0 m 21 ls [.int s0]) := by
    intro S s0 H locs ls h hG hl
    unfold wp_X0_isBookedAt_b21 at h
    obtain ⟨z1, h⟩ := h
    exact qe_z hx hb hr hlk z1 hG h (Nat.le_refl _) (Nat.le_refl _) dX0_isBookedAt_21
  have b20 : ∀ (S : qs_S) (H : Heap) (locs : List Loc) (ls : Array Slot), wp_X0_isBookedAt_b20 g.2.2.2.2.2.2.1 g.2.2.2.2.2.2.2 post S → qs_Gd g (qs_F g SA s.heap.size) s S H locs → lv_has ls 3 [] → W p l e (headSpec wsX0_isBookedAt ({ frames := 0, cells := 0, slots := 0, locals := 0 } : Room)).room s m (([.ref a0z, .int x1z, .int x2z] : List Value)).toArray below meth c H locs 0 0 (MQ below (qs_Qi g (qs_F g SA s.heap.size) post) (([.ref a0z, .int x1z, .int x2z] : List Value)).toArray s 0 0 (qs_F g SA s.heap.size)) (F0 m 20 ls []) := by
    intro S H locs ls h hG hl
    unfold wp_X0_isBookedAt_b20 at h
    refine lv_iconst (v := (0 : Int32)) hx hb dX0_isBookedAt_20 (by decide +kernel) ?_
    exact b21 S (0 : Int32) _ _ ls h hG (lv_sub hl [] rfl)
  have hl := lv_entry ([.ref a0z, .int x1z, .int x2z]) (n := 3) (Nat.le_of_ble_eq_true rfl)
  rw [lg_entry_eq]
  generalize (lg_sl ([.ref a0z, .int x1z, .int x2z]) ++ List.replicate (3 - (lg_sl ([.ref a0z, .int x1z, .int x2z])).length) Slot.unset).toArray = ls at hl ⊢
  have hl : lv_has ls 3 [(0, .ref a0z), (1, .int x1z), (2, .int x2z)] := hl
  unfold wp_X0_isBookedAt at h
  refine lv_aload_n hx hb dX0_isBookedAt_0 rfl (lv_at hl 0 rfl) ?_
  obtain ⟨⟨hL2, fK3⟩, h⟩ := h
  refine qr_get (C := RX0) (T := TX0) (N := 8) (ci := 1) hx hb hts in1 hown hG hL2 fK3 (by decide) rfl 6 (by decide) rfl (hts (.fieldLink RX0 21 "QuayMesh$Box" "bookedGate" "I") (List.mem_of_getElem? (i := 1) rfl)) (fun _ h9 => h9) (v := .int (qs_I SA 6 a0z)) rfl dX0_isBookedAt_1 ?_
  refine lv_topi (fun v4 ev4 => ?_)
  have h := h v4 ev4
  refine lv_iload_n hx hb dX0_isBookedAt_4 rfl (lv_at hl 1 rfl) ?_
  refine lv_icmp_ne (tgt := 20) hx hb dX0_isBookedAt_5 (by decide) (fun c5 => ?_) (fun c5 => ?_)
  · have h := h.1 c5
    exact b20 SA _ _ ls h hG (lv_sub hl [] rfl)
  · have h := h.2 c5
    refine lv_aload_n hx hb dX0_isBookedAt_8 rfl (lv_at hl 0 rfl) ?_
    refine qr_get (C := RX0) (T := TX0) (N := 8) (ci := 1) hx hb hts in1 hown hG hL2 fK3 (by decide) rfl 7 (by decide) rfl (hts (.fieldLink RX0 24 "QuayMesh$Box" "bookedHour" "I") (List.mem_of_getElem? (i := 2) rfl)) (fun _ h9 => h9) (v := .int (qs_I SA 7 a0z)) rfl dX0_isBookedAt_9 ?_
    refine lv_topi (fun v6 ev6 => ?_)
    have h := h v6 ev6
    refine lv_iload_n hx hb dX0_isBookedAt_12 rfl (lv_at hl 2 rfl) ?_
    refine lv_icmp_ne (tgt := 20) hx hb dX0_isBookedAt_13 (by decide) (fun c7 => ?_) (fun c7 => ?_)
    · have h := h.1 c7
      exact b20 SA _ _ ls h hG (lv_sub hl [] rfl)
    · have h := h.2 c7
      refine lv_iconst (v := (1 : Int32)) hx hb dX0_isBookedAt_16 (by decide +kernel) ?_
      refine lv_goto (tgt := 21) hx hb dX0_isBookedAt_17 (by decide) ?_
      exact b21 SA (1 : Int32) _ _ ls h hG (lv_sub hl [] rfl)
def wp_X0_dropBooking (t0 m9 : Nat) (post : qs_S → Prop) (SA : qs_S) (a0z : Nat) : Prop := (a0z ∈ qs_L SA ∧ qs_K SA a0z = 1) ∧ (post (qs_wI (qs_wI SA 6 a0z (-1 : Int32)) 7 a0z (-1 : Int32)))
set_option maxHeartbeats 4000000 in
set_option maxRecDepth 100000 in
theorem c_X0_dropBooking (l : Launch) (g : qs_G) (sz : Nat) (SA : qs_S) (a0z : Nat) {post : qs_S → Prop} (h : wp_X0_dropBooking g.2.2.2.2.2.2.1 g.2.2.2.2.2.2.2 post SA a0z) : Met l yX0_dropBooking wsX0_dropBooking ({ frames := 0, cells := 0, slots := 0, locals := 0 } : Room) (qs_Pc g sz SA [.ref a0z]) (qs_Qv g (qs_F g SA sz) post) 0 0 (qs_F g SA sz) := by
  refine Met.ofW (cc := cX0_dropBooking) (maxL := 1) (ret := none) (by decide +kernel) rfl ?_
  intro p e s m args below meth c s₁ B hml hv
  obtain ⟨rfl, hsz, hG⟩ := qs_Gd.start hv
  subst hsz
  have hx := B.exec
  have hb := B.bytes
  have hr := B.returns
  have hts := atoms_spec (ws := wsX0_dropBooking) B.pre
  have hown : s.vm.findClass RX0 = some m.cls := findClass_of_methodNamed B.named
  have hlk := B.notSynchronized
  have in1 : ∀ w ∈ u_ws RX0 TX0 8, w ∈ wsX0_dropBooking := fun w h => List.mem_cons_of_mem _ (List.mem_append_right _ (h))
  have hl := lv_entry ([.ref a0z]) (n := 1) (Nat.le_of_ble_eq_true rfl)
  rw [lg_entry_eq]
  generalize (lg_sl ([.ref a0z]) ++ List.replicate (1 - (lg_sl ([.ref a0z])).length) Slot.unset).toArray = ls at hl ⊢
  have hl : lv_has ls 1 [(0, .ref a0z)] := hl
  unfold wp_X0_dropBooking at h
  refine lv_aload_n hx hb dX0_dropBooking_0 rfl (lv_at hl 0 rfl) ?_
  refine lv_iconst (v := (-1 : Int32)) hx hb dX0_dropBooking_1 (by decide +kernel) ?_
  obtain ⟨⟨hL1, fK2⟩, h⟩ := h
  refine qr_putI (C := RX0) (T := TX0) (N := 8) (ci := 1) hx hb hts in1 tyX0 tyX0_ok nmX0 hown hG hL1 fK2 (by decide) rfl 6 (by decide) rfl (hts (.fieldLink RX0 21 "QuayMesh$Box" "bookedGate" "I") (List.mem_of_getElem? (i := 1) rfl)) (fun _ h9 => h9) rfl (x := (-1 : Int32)) (tyX0_ok 6 (by decide)) rfl rfl dX0_dropBooking_2 (fun H locs hG => ?_)
  refine lv_aload_n hx hb dX0_dropBooking_5 rfl (lv_at hl 0 rfl) ?_
  refine lv_iconst (v := (-1 : Int32)) hx hb dX0_dropBooking_6 (by decide +kernel) ?_
  refine qr_putI (C := RX0) (T := TX0) (N := 8) (ci := 1) hx hb hts in1 tyX0 tyX0_ok nmX0 hown hG hL1 fK2 (by decide) rfl 7 (by decide) rfl (hts (.fieldLink RX0 24 "QuayMesh$Box" "bookedHour" "I") (List.mem_of_getElem? (i := 2) rfl)) (fun _ h9 => h9) rfl (x := (-1 : Int32)) (tyX0_ok 7 (by decide)) rfl rfl dX0_dropBooking_7 (fun H locs hG => ?_)
  exact qe_v hx hb hr hlk hG h (Nat.le_refl _) (Nat.le_refl _) dX0_dropBooking_10
def wp_X2_init (t0 m9 : Nat) (post : qs_S → Prop) (SA : qs_S) (a0z : Nat) (x1z : Int32) (x2z : Int32) (a3z : Nat) (x4z : Int32) : Prop := (a0z ∈ qs_L SA ∧ qs_K SA a0z = 3) ∧ (∀ S3 : qs_S, S3 = qs_wI (qs_wR (qs_wI (qs_wI (qs_wI (qs_wI (qs_wI SA 4 a0z (0 : Int32)) 5 a0z (-1 : Int32)) 6 a0z (0 : Int32)) 0 a0z x1z) 1 a0z x2z) 2 a0z (some a3z)) 3 a0z x4z → post S3)
set_option maxHeartbeats 4000000 in
set_option maxRecDepth 100000 in
theorem c_X2_init (l : Launch) (g : qs_G) (sz : Nat) (SA : qs_S) (a0z : Nat) (x1z : Int32) (x2z : Int32) (a3z : Nat) (x4z : Int32) {post : qs_S → Prop} (h : wp_X2_init g.2.2.2.2.2.2.1 g.2.2.2.2.2.2.2 post SA a0z x1z x2z a3z x4z) : Met l yX2_init wsX2_init ({ frames := 1, cells := 0, slots := 0, locals := 20 } : Room) (qs_Pc g sz SA [.ref a0z, .int x1z, .int x2z, .ref a3z, .int x4z]) (qs_Qv g (qs_F g SA sz) post) 0 0 (qs_F g SA sz) := by
  refine Met.ofW (cc := cX2_init) (maxL := 5) (ret := none) (by decide +kernel) rfl ?_
  intro p e s m args below meth c s₁ B hml hv
  obtain ⟨rfl, hsz, hG⟩ := qs_Gd.start hv
  subst hsz
  have hx := B.exec
  have hb := B.bytes
  have hr := B.returns
  have hts := atoms_spec (ws := wsX2_init) B.pre
  have hown : s.vm.findClass RX2 = some m.cls := findClass_of_methodNamed B.named
  have hlk := B.notSynchronized
  have hin9 : meth.name = "<init>" := (name_of_methodNamed B.named B.method).1
  have in3 : ∀ w ∈ u_ws RX2 TX2 7, w ∈ wsX2_init := fun w h => List.mem_cons_of_mem _ (List.mem_append_right _ (h))
  have hl := lv_entry ([.ref a0z, .int x1z, .int x2z, .ref a3z, .int x4z]) (n := 5) (Nat.le_of_ble_eq_true rfl)
  rw [lg_entry_eq]
  generalize (lg_sl ([.ref a0z, .int x1z, .int x2z, .ref a3z, .int x4z]) ++ List.replicate (5 - (lg_sl ([.ref a0z, .int x1z, .int x2z, .ref a3z, .int x4z])).length) Slot.unset).toArray = ls at hl ⊢
  have hl : lv_has ls 5 [(0, .ref a0z), (1, .int x1z), (2, .int x2z), (3, .ref a3z), (4, .int x4z)] := hl
  unfold wp_X2_init at h
  refine lv_aload_n hx hb dX2_init_0 rfl (lv_at hl 0 rfl) ?_
  refine W.objInit hx hb hown (hts (.methodLink RX2 3 objectInit) (List.mem_of_getElem? (i := 1) rfl)) (hts (.instanceMethod objectInit) (List.mem_of_getElem? (i := 2) rfl)) (hts (.code objectInit ⟨#[0xb1]⟩ 1 none) (List.mem_of_getElem? (i := 3) rfl)) rfl (hl.1.trans hml.symm) rfl dX2_init_1 (Nat.le_of_ble_eq_true rfl) (Nat.le_of_ble_eq_true rfl) ?_
  refine W.eq (g2 := F0 m 4 ls []) rfl ?_
  refine lv_aload_n hx hb dX2_init_4 rfl (lv_at hl 0 rfl) ?_
  refine lv_iconst (v := (0 : Int32)) hx hb dX2_init_5 (by decide +kernel) ?_
  obtain ⟨⟨hL1, fK2⟩, h⟩ := h
  refine qr_putI (C := RX2) (T := TX2) (N := 7) (ci := 3) hx hb hts in3 tyX2 tyX2_ok nmX2 hown hG hL1 fK2 (by decide) rfl 4 (by decide) rfl (hts (.fieldLink RX2 9 "QuayMesh$Message" "timesHanded" "I") (List.mem_of_getElem? (i := 4) rfl)) (fun _ h9 => h9) rfl (x := (0 : Int32)) (tyX2_ok 4 (by decide)) rfl rfl dX2_init_6 (fun H locs hG => ?_)
  refine lv_aload_n hx hb dX2_init_9 rfl (lv_at hl 0 rfl) ?_
  refine lv_iconst (v := (-1 : Int32)) hx hb dX2_init_10 (by decide +kernel) ?_
  refine qr_putI (C := RX2) (T := TX2) (N := 7) (ci := 3) hx hb hts in3 tyX2 tyX2_ok nmX2 hown hG hL1 fK2 (by decide) rfl 5 (by decide) rfl (hts (.fieldLink RX2 15 "QuayMesh$Message" "orderMade" "I") (List.mem_of_getElem? (i := 5) rfl)) (fun _ h9 => h9) rfl (x := (-1 : Int32)) (tyX2_ok 5 (by decide)) rfl rfl dX2_init_11 (fun H locs hG => ?_)
  refine lv_aload_n hx hb dX2_init_14 rfl (lv_at hl 0 rfl) ?_
  refine lv_iconst (v := (0 : Int32)) hx hb dX2_init_15 (by decide +kernel) ?_
  refine qr_putI (C := RX2) (T := TX2) (N := 7) (ci := 3) hx hb hts in3 tyX2 tyX2_ok nmX2 hown hG hL1 fK2 (by decide) rfl 6 (by decide) rfl (hts (.fieldLink RX2 18 "QuayMesh$Message" "isLogged" "Z") (List.mem_of_getElem? (i := 6) rfl)) (fun _ h9 => h9) rfl (x := (0 : Int32)) (tyX2_ok 6 (by decide)) (qs_nar01 (Or.inl rfl)) (qs_fit01 (Or.inl rfl)) dX2_init_16 (fun H locs hG => ?_)
  refine lv_aload_n hx hb dX2_init_19 rfl (lv_at hl 0 rfl) ?_
  refine lv_iload_n hx hb dX2_init_20 rfl (lv_at hl 1 rfl) ?_
  refine qr_putIF (C := RX2) (T := TX2) (N := 7) (ci := 3) hx hb hts in3 tyX2 tyX2_ok nmX2 hown hG hL1 fK2 (by decide) rfl 0 (by decide) rfl (hts (.fieldLink RX2 22 "QuayMesh$Message" "number" "I") (List.mem_of_getElem? (i := 7) rfl)) (fun _ h9 => h9) rfl hin9 rfl (x := x1z) (tyX2_ok 0 (by decide)) rfl rfl dX2_init_21 (fun H locs hG => ?_)
  refine lv_aload_n hx hb dX2_init_24 rfl (lv_at hl 0 rfl) ?_
  refine lv_iload_n hx hb dX2_init_25 rfl (lv_at hl 2 rfl) ?_
  refine qr_putIF (C := RX2) (T := TX2) (N := 7) (ci := 3) hx hb hts in3 tyX2 tyX2_ok nmX2 hown hG hL1 fK2 (by decide) rfl 1 (by decide) rfl (hts (.fieldLink RX2 25 "QuayMesh$Message" "kind" "I") (List.mem_of_getElem? (i := 8) rfl)) (fun _ h9 => h9) rfl hin9 rfl (x := x2z) (tyX2_ok 1 (by decide)) rfl rfl dX2_init_26 (fun H locs hG => ?_)
  refine lv_aload_n hx hb dX2_init_29 rfl (lv_at hl 0 rfl) ?_
  refine lv_aload_n hx hb dX2_init_30 rfl (lv_at hl 3 rfl) ?_
  refine qr_putRF (C := RX2) (T := TX2) (N := 7) (ci := 3) hx hb hts in3 tyX2 tyX2_ok nmX2 hown hG hL1 fK2 (by decide) rfl 2 (by decide) rfl (hts (.fieldLink RX2 28 "QuayMesh$Message" "box" "LQuayMesh$Box;") (List.mem_of_getElem? (i := 9) rfl)) (fun _ h9 => h9) rfl hin9 rfl (x := some a3z) rfl (tyX2_ok 2 (by decide)) rfl rfl dX2_init_31 (fun H locs hG => ?_)
  refine lv_aload_n hx hb dX2_init_34 rfl (lv_at hl 0 rfl) ?_
  refine lv_iload hx hb dX2_init_35 (lv_at hl 4 rfl) ?_
  refine qr_putIF (C := RX2) (T := TX2) (N := 7) (ci := 3) hx hb hts in3 tyX2 tyX2_ok nmX2 hown hG hL1 fK2 (by decide) rfl 3 (by decide) rfl (hts (.fieldLink RX2 32 "QuayMesh$Message" "target" "I") (List.mem_of_getElem? (i := 10) rfl)) (fun _ h9 => h9) rfl hin9 rfl (x := x4z) (tyX2_ok 3 (by decide)) rfl rfl dX2_init_37 (fun H locs hG => ?_)
  obtain ⟨S3, eS3⟩ : ∃ z : qs_S, z = qs_wI (qs_wR (qs_wI (qs_wI (qs_wI (qs_wI (qs_wI SA 4 a0z (0 : Int32)) 5 a0z (-1 : Int32)) 6 a0z (0 : Int32)) 0 a0z x1z) 1 a0z x2z) 2 a0z (some a3z)) 3 a0z x4z := ⟨_, rfl⟩
  have h := h S3 eS3
  rw [← eS3] at hG
  have hL4 : a0z ∈ qs_L S3 := by rw [eS3]; exact hL1
  have fK5 : qs_K S3 a0z = 3 := by rw [eS3]; exact fK2
  exact qe_v hx hb hr hlk hG h (Nat.le_refl _) (Nat.le_refl _) dX2_init_40
def wp_X2_isMoveMade_b13 (t0 m9 : Nat) (post : Int32 → qs_S → Prop) (S : qs_S) (s0 : Int32) : Prop := (s0 = 0 ∨ s0 = 1) ∧ post s0 S
def wp_X2_isMoveMade (t0 m9 : Nat) (post : Int32 → qs_S → Prop) (SA : qs_S) (a0z : Nat) : Prop := (a0z ∈ qs_L SA ∧ qs_K SA a0z = 3) ∧ (∀ v4 : Int32, v4 = qs_I SA 5 a0z → (v4 = (-1 : Int32) → (wp_X2_isMoveMade_b13 t0 m9 post SA (0 : Int32))) ∧ (¬ v4 = (-1 : Int32) → (wp_X2_isMoveMade_b13 t0 m9 post SA (1 : Int32))))
set_option maxHeartbeats 4000000 in
set_option maxRecDepth 100000 in
theorem c_X2_isMoveMade (l : Launch) (g : qs_G) (sz : Nat) (SA : qs_S) (a0z : Nat) {post : Int32 → qs_S → Prop} (h : wp_X2_isMoveMade g.2.2.2.2.2.2.1 g.2.2.2.2.2.2.2 post SA a0z) : Met l yX2_isMoveMade wsX2_isMoveMade ({ frames := 0, cells := 0, slots := 0, locals := 0 } : Room) (qs_Pc g sz SA [.ref a0z]) (qs_Qi g (qs_F g SA sz) post) 0 0 (qs_F g SA sz) := by
  refine Met.ofW (cc := cX2_isMoveMade) (maxL := 1) (ret := (some .boolean)) (by decide +kernel) rfl ?_
  intro p e s m args below meth c s₁ B hml hv
  obtain ⟨rfl, hsz, hG⟩ := qs_Gd.start hv
  subst hsz
  have hx := B.exec
  have hb := B.bytes
  have hr := B.returns
  have hts := atoms_spec (ws := wsX2_isMoveMade) B.pre
  have hown : s.vm.findClass RX2 = some m.cls := findClass_of_methodNamed B.named
  have hlk := B.notSynchronized
  have in3 : ∀ w ∈ u_ws RX2 TX2 7, w ∈ wsX2_isMoveMade := fun w h => List.mem_cons_of_mem _ (List.mem_append_right _ (h))
  have b13 : ∀ (S : qs_S) (s0 : Int32) (H : Heap) (locs : List Loc) (ls : Array Slot), wp_X2_isMoveMade_b13 g.2.2.2.2.2.2.1 g.2.2.2.2.2.2.2 post S s0 → qs_Gd g (qs_F g SA s.heap.size) s S H locs → lv_has ls 1 [] → W p l e (headSpec wsX2_isMoveMade ({ frames := 0, cells := 0, slots := 0, locals := 0 } : Room)).room s m (([.ref a0z] : List Value)).toArray below meth c H locs 0 0 (MQ below (qs_Qi g (qs_F g SA s.heap.size) post) (([.ref a0z] : List Value)).toArray s 0 0 (qs_F g SA s.heap.size)) (F0 m 13 ls [.int s0]) := by
    intro S s0 H locs ls h hG hl
    unfold wp_X2_isMoveMade_b13 at h
    obtain ⟨z1, h⟩ := h
    exact qe_z hx hb hr hlk z1 hG h (Nat.le_refl _) (Nat.le_refl _) dX2_isMoveMade_13
  have hl := lv_entry ([.ref a0z]) (n := 1) (Nat.le_of_ble_eq_true rfl)
  rw [lg_entry_eq]
  generalize (lg_sl ([.ref a0z]) ++ List.replicate (1 - (lg_sl ([.ref a0z])).length) Slot.unset).toArray = ls at hl ⊢
  have hl : lv_has ls 1 [(0, .ref a0z)] := hl
  unfold wp_X2_isMoveMade at h
  refine lv_aload_n hx hb dX2_isMoveMade_0 rfl (lv_at hl 0 rfl) ?_
  obtain ⟨⟨hL2, fK3⟩, h⟩ := h
  refine qr_get (C := RX2) (T := TX2) (N := 7) (ci := 3) hx hb hts in3 hown hG hL2 fK3 (by decide) rfl 5 (by decide) rfl (hts (.fieldLink RX2 15 "QuayMesh$Message" "orderMade" "I") (List.mem_of_getElem? (i := 1) rfl)) (fun _ h9 => h9) (v := .int (qs_I SA 5 a0z)) rfl dX2_isMoveMade_1 ?_
  refine lv_topi (fun v4 ev4 => ?_)
  have h := h v4 ev4
  refine lv_iconst (v := (-1 : Int32)) hx hb dX2_isMoveMade_4 (by decide +kernel) ?_
  refine lv_icmp_eq (tgt := 12) hx hb dX2_isMoveMade_5 (by decide) (fun c5 => ?_) (fun c5 => ?_)
  · have h := h.1 c5
    refine lv_iconst (v := (0 : Int32)) hx hb dX2_isMoveMade_12 (by decide +kernel) ?_
    exact b13 SA (0 : Int32) _ _ ls h hG (lv_sub hl [] rfl)
  · have h := h.2 c5
    refine lv_iconst (v := (1 : Int32)) hx hb dX2_isMoveMade_8 (by decide +kernel) ?_
    refine lv_goto (tgt := 13) hx hb dX2_isMoveMade_9 (by decide) ?_
    exact b13 SA (1 : Int32) _ _ ls h hG (lv_sub hl [] rfl)
def wp_X3_init (t0 m9 : Nat) (post : qs_S → Prop) (SA : qs_S) (a0z : Nat) (x1z : Int32) (x2z : Int32) : Prop := (a0z ∈ qs_L SA ∧ qs_K SA a0z = 4) ∧ (post (qs_wI (qs_wI (qs_wI SA 2 a0z (0 : Int32)) 0 a0z x1z) 1 a0z x2z))
set_option maxHeartbeats 4000000 in
set_option maxRecDepth 100000 in
theorem c_X3_init (l : Launch) (g : qs_G) (sz : Nat) (SA : qs_S) (a0z : Nat) (x1z : Int32) (x2z : Int32) {post : qs_S → Prop} (h : wp_X3_init g.2.2.2.2.2.2.1 g.2.2.2.2.2.2.2 post SA a0z x1z x2z) : Met l yX3_init wsX3_init ({ frames := 1, cells := 0, slots := 0, locals := 20 } : Room) (qs_Pc g sz SA [.ref a0z, .int x1z, .int x2z]) (qs_Qv g (qs_F g SA sz) post) 0 0 (qs_F g SA sz) := by
  refine Met.ofW (cc := cX3_init) (maxL := 3) (ret := none) (by decide +kernel) rfl ?_
  intro p e s m args below meth c s₁ B hml hv
  obtain ⟨rfl, hsz, hG⟩ := qs_Gd.start hv
  subst hsz
  have hx := B.exec
  have hb := B.bytes
  have hr := B.returns
  have hts := atoms_spec (ws := wsX3_init) B.pre
  have hown : s.vm.findClass RX3 = some m.cls := findClass_of_methodNamed B.named
  have hlk := B.notSynchronized
  have hin9 : meth.name = "<init>" := (name_of_methodNamed B.named B.method).1
  have in4 : ∀ w ∈ u_ws RX3 TX3 3, w ∈ wsX3_init := fun w h => List.mem_cons_of_mem _ (List.mem_append_right _ (h))
  have hl := lv_entry ([.ref a0z, .int x1z, .int x2z]) (n := 3) (Nat.le_of_ble_eq_true rfl)
  rw [lg_entry_eq]
  generalize (lg_sl ([.ref a0z, .int x1z, .int x2z]) ++ List.replicate (3 - (lg_sl ([.ref a0z, .int x1z, .int x2z])).length) Slot.unset).toArray = ls at hl ⊢
  have hl : lv_has ls 3 [(0, .ref a0z), (1, .int x1z), (2, .int x2z)] := hl
  unfold wp_X3_init at h
  refine lv_aload_n hx hb dX3_init_0 rfl (lv_at hl 0 rfl) ?_
  refine W.objInit hx hb hown (hts (.methodLink RX3 1 objectInit) (List.mem_of_getElem? (i := 1) rfl)) (hts (.instanceMethod objectInit) (List.mem_of_getElem? (i := 2) rfl)) (hts (.code objectInit ⟨#[0xb1]⟩ 1 none) (List.mem_of_getElem? (i := 3) rfl)) rfl (hl.1.trans hml.symm) rfl dX3_init_1 (Nat.le_of_ble_eq_true rfl) (Nat.le_of_ble_eq_true rfl) ?_
  refine W.eq (g2 := F0 m 4 ls []) rfl ?_
  refine lv_aload_n hx hb dX3_init_4 rfl (lv_at hl 0 rfl) ?_
  refine lv_iconst (v := (0 : Int32)) hx hb dX3_init_5 (by decide +kernel) ?_
  obtain ⟨⟨hL1, fK2⟩, h⟩ := h
  refine qr_putI (C := RX3) (T := TX3) (N := 3) (ci := 4) hx hb hts in4 tyX3 tyX3_ok nmX3 hown hG hL1 fK2 (by decide) rfl 2 (by decide) rfl (hts (.fieldLink RX3 7 "QuayMesh$Ship" "hasLeft" "Z") (List.mem_of_getElem? (i := 4) rfl)) (fun _ h9 => h9) rfl (x := (0 : Int32)) (tyX3_ok 2 (by decide)) (qs_nar01 (Or.inl rfl)) (qs_fit01 (Or.inl rfl)) dX3_init_6 (fun H locs hG => ?_)
  refine lv_aload_n hx hb dX3_init_9 rfl (lv_at hl 0 rfl) ?_
  refine lv_iload_n hx hb dX3_init_10 rfl (lv_at hl 1 rfl) ?_
  refine qr_putIF (C := RX3) (T := TX3) (N := 3) (ci := 4) hx hb hts in4 tyX3 tyX3_ok nmX3 hown hG hL1 fK2 (by decide) rfl 0 (by decide) rfl (hts (.fieldLink RX3 13 "QuayMesh$Ship" "begin" "I") (List.mem_of_getElem? (i := 5) rfl)) (fun _ h9 => h9) rfl hin9 rfl (x := x1z) (tyX3_ok 0 (by decide)) rfl rfl dX3_init_11 (fun H locs hG => ?_)
  refine lv_aload_n hx hb dX3_init_14 rfl (lv_at hl 0 rfl) ?_
  refine lv_iload_n hx hb dX3_init_15 rfl (lv_at hl 2 rfl) ?_
  refine qr_putIF (C := RX3) (T := TX3) (N := 3) (ci := 4) hx hb hts in4 tyX3 tyX3_ok nmX3 hown hG hL1 fK2 (by decide) rfl 1 (by decide) rfl (hts (.fieldLink RX3 17 "QuayMesh$Ship" "end" "I") (List.mem_of_getElem? (i := 6) rfl)) (fun _ h9 => h9) rfl hin9 rfl (x := x2z) (tyX3_ok 1 (by decide)) rfl rfl dX3_init_16 (fun H locs hG => ?_)
  exact qe_v hx hb hr hlk hG h (Nat.le_refl _) (Nat.le_refl _) dX3_init_19
def wp_X5_init (t0 m9 : Nat) (mc ms : Nat) (post : qs_S → Prop) (SA : qs_S) (a0z : Nat) (x1z : Int32) : Prop := (0 + 1 ≤ mc ∧ 0 + 3 ≤ ms) ∧ (∀ q1 : Nat, q1 ∉ qs_L SA → q1 ≠ t0 → wp_Jx4a65c_init_da8c8 t0 m9 (fun (S8 : qs_S) => (a0z ∈ qs_L S8 ∧ (qs_K S8 a0z = 2 ∨ qs_K S8 a0z = 5)) ∧ ((1 + 1 ≤ mc ∧ 3 + 3 ≤ ms) ∧ (∀ q11 : Nat, q11 ∉ qs_L (qs_wR S8 1 a0z (some q1)) → q11 ≠ t0 → wp_Jx4a65c_init_da8c8 t0 m9 (fun (S20 : qs_S) => (a0z ∈ qs_L S20 ∧ (qs_K S20 a0z = 2 ∨ qs_K S20 a0z = 5)) ∧ (post (qs_wI (qs_wR (qs_wI (qs_wI (qs_wI (qs_wR S20 2 a0z (some q11)) 3 a0z (0 : Int32)) 4 a0z (0 : Int32)) 5 a0z (0 : Int32)) 6 a0z none) 0 a0z x1z))) (qs_nw (qs_wR S8 1 a0z (some q1)) q11 0) q11))) (qs_nw SA q1 0) q1)
set_option maxHeartbeats 4000000 in
set_option maxRecDepth 100000 in
theorem c_X5_init (l : Launch) (g : qs_G) (sz : Nat) (SA : qs_S) (a0z : Nat) (x1z : Int32) {mc ms : Nat} {post : qs_S → Prop} (h : wp_X5_init g.2.2.2.2.2.2.1 g.2.2.2.2.2.2.2 mc ms post SA a0z x1z) : Met l yX5_init wsX5_init ({ frames := 4, cells := mc, slots := ms, locals := 80 } : Room) (qs_Pc g sz SA [.ref a0z, .int x1z]) (qs_Qv g (qs_F g SA sz) post) mc ms (qs_F g SA sz) := by
  refine Met.ofW (cc := cX5_init) (maxL := 2) (ret := none) (by decide +kernel) rfl ?_
  intro p e s m args below meth c s₁ B hml hv
  obtain ⟨rfl, hsz, hG⟩ := qs_Gd.start hv
  subst hsz
  have hx := B.exec
  have hb := B.bytes
  have hr := B.returns
  have hts := atoms_spec (ws := wsX5_init) B.pre
  have hown : s.vm.findClass RX5 = some m.cls := findClass_of_methodNamed B.named
  have hlk := B.notSynchronized
  have hin9 : meth.name = "<init>" := (name_of_methodNamed B.named B.method).1
  have in0 : ∀ w ∈ u_ws RJx4a65c TJx4a65c 3, w ∈ wsX5_init := fun w h => List.mem_cons_of_mem _ (List.mem_append_left _ (List.mem_append_left _ (List.mem_append_right _ (h))))
  have in2 : ∀ w ∈ u_ws RX1 TX1 8, w ∈ wsX5_init := fun w h => List.mem_cons_of_mem _ (List.mem_append_left _ (List.mem_append_right _ (h)))
  have in5 : ∀ w ∈ u_ws RX4 TX4 8, w ∈ wsX5_init := fun w h => List.mem_cons_of_mem _ (List.mem_append_right _ (h))
  have hkc : 0 ≤ mc := Nat.zero_le _
  have hks : 0 ≤ ms := Nat.zero_le _
  have hmR : mc ≤ (headSpec wsX5_init ({ frames := 4, cells := mc, slots := ms, locals := 80 } : Room)).room.cells := Nat.le_refl _
  have hsR : ms ≤ (headSpec wsX5_init ({ frames := 4, cells := mc, slots := ms, locals := 80 } : Room)).room.slots := Nat.le_refl _
  have hl := lv_entry ([.ref a0z, .int x1z]) (n := 2) (Nat.le_of_ble_eq_true rfl)
  rw [lg_entry_eq]
  generalize (lg_sl ([.ref a0z, .int x1z]) ++ List.replicate (2 - (lg_sl ([.ref a0z, .int x1z])).length) Slot.unset).toArray = ls at hl ⊢
  have hl : lv_has ls 2 [(0, .ref a0z), (1, .int x1z)] := hl
  unfold wp_X5_init at h
  refine lv_aload_n hx hb dX5_init_0 rfl (lv_at hl 0 rfl) ?_
  refine W.objInit hx hb hown (hts (.methodLink RX5 3 objectInit) (List.mem_of_getElem? (i := 1) rfl)) (hts (.instanceMethod objectInit) (List.mem_of_getElem? (i := 2) rfl)) (hts (.code objectInit ⟨#[0xb1]⟩ 1 none) (List.mem_of_getElem? (i := 3) rfl)) rfl (hl.1.trans hml.symm) rfl dX5_init_1 (Nat.le_of_ble_eq_true rfl) (Nat.le_of_ble_eq_true rfl) ?_
  refine W.eq (g2 := F0 m 4 ls []) rfl ?_
  refine lv_aload_n hx hb dX5_init_4 rfl (lv_at hl 0 rfl) ?_
  obtain ⟨⟨hs2c, hs2s⟩, h⟩ := h
  refine qr_new (C := RJx4a65c) (T := TJx4a65c) (N := 3) (ci := 0) hx hb hts in0 tyJx4a65c tyJx4a65c_ok hown (hts (.classLink RX5 9 RJx4a65c) (List.mem_of_getElem? (i := 4) rfl)) (hts (.instantiable RJx4a65c 3) (List.mem_of_getElem? (i := 5) rfl)) (hts (.initialized RJx4a65c) (List.mem_of_getElem? (i := 6) rfl)) hG (by decide) rfl hf9_0 (Nat.le_trans hs2c hmR) (Nat.le_trans hs2s hsR) dX5_init_5 (fun q1 H hq3 hq3t hG => ?_)
  have hkc := hs2c
  have hks := hs2s
  have h := h q1 hq3 hq3t
  have hL4 := qs_nwN (S := SA) (q := q1) (ci := 0)
  have fK5 := qs_nwM (S := SA) (q := q1) (ci := 0)
  refine lv_dup hx hb dX5_init_8 rfl ?_
  refine qc_v hG (va_runI (As := []) (rest := [.ref q1, .ref a0z]) ⟨hx, hb, hml, hown, hts⟩ (c_Jx4a65c_init_da8c8 l g _ (qs_nw SA q1 0) q1 h) (cwI 0 hts gX5_init_Jx4a65c_init_da8c8 rfl rfl rfl (hts (.initialized RJx4a65c) (List.mem_of_getElem? (i := 6) rfl)) (hts (.methodLink RX5 11 yJx4a65c_init_da8c8) (List.mem_of_getElem? (i := 14) rfl)) (hts (.instanceMethod yJx4a65c_init_da8c8) (List.mem_of_getElem? (i := 15) rfl)) rfl (by decide +kernel) ⟨(Nat.le_of_ble_eq_true rfl), (Nat.le_of_ble_eq_true rfl)⟩) ⟨qs_Pc.blind _ _ _ _, hG.pre _⟩ rfl rfl hl.1 rfl (lv_room (Nat.le_of_ble_eq_true rfl)) dX5_init_9 ⟨Nat.le_trans hkc hmR, Nat.le_trans hks hsR⟩) (fun S8 H locs h hG => ?_)
  obtain ⟨⟨hL9, fK10⟩, h⟩ := h
  refine qr_putRWF hx hb hts in2 in5 hown hG hL9 fK10 1 (by decide) rfl ⟨rfl, rfl⟩ (hts (.fieldLink RX5 12 "QuayMesh$Worker" "waiting" "Ljava/util/ArrayList;") (List.mem_of_getElem? (i := 7) rfl)) (fun _ h9 => h9) (fun _ h9 => h9) rfl hin9 rfl (x := some q1) rfl (tyX1_ok 1 (by decide)) rfl rfl dX5_init_12 (fun H locs hG => ?_)
  refine lv_aload_n hx hb dX5_init_15 rfl (lv_at hl 0 rfl) ?_
  obtain ⟨⟨hs12c, hs12s⟩, h⟩ := h
  refine qr_new (C := RJx4a65c) (T := TJx4a65c) (N := 3) (ci := 0) hx hb hts in0 tyJx4a65c tyJx4a65c_ok hown (hts (.classLink RX5 9 RJx4a65c) (List.mem_of_getElem? (i := 4) rfl)) (hts (.instantiable RJx4a65c 3) (List.mem_of_getElem? (i := 5) rfl)) (hts (.initialized RJx4a65c) (List.mem_of_getElem? (i := 6) rfl)) hG (by decide) rfl hf9_0 (Nat.le_trans hs12c hmR) (Nat.le_trans hs12s hsR) dX5_init_16 (fun q11 H hq13 hq13t hG => ?_)
  have hkc := hs12c
  have hks := hs12s
  have h := h q11 hq13 hq13t
  have hL14 := qs_nwL (S := (qs_wR S8 1 a0z (some q1))) (q := q11) (ci := 0) hL9
  have fK15 := qs_nwKW (S := (qs_wR S8 1 a0z (some q1))) (q := q11) (ci := 0) hq13 hL9 fK10
  have hL16 := qs_nwN (S := (qs_wR S8 1 a0z (some q1))) (q := q11) (ci := 0)
  have fK17 := qs_nwM (S := (qs_wR S8 1 a0z (some q1))) (q := q11) (ci := 0)
  refine lv_dup hx hb dX5_init_19 rfl ?_
  refine qc_v hG (va_runI (As := []) (rest := [.ref q11, .ref a0z]) ⟨hx, hb, hml, hown, hts⟩ (c_Jx4a65c_init_da8c8 l g _ (qs_nw (qs_wR S8 1 a0z (some q1)) q11 0) q11 h) (cwI 0 hts gX5_init_Jx4a65c_init_da8c8 rfl rfl rfl (hts (.initialized RJx4a65c) (List.mem_of_getElem? (i := 6) rfl)) (hts (.methodLink RX5 11 yJx4a65c_init_da8c8) (List.mem_of_getElem? (i := 14) rfl)) (hts (.instanceMethod yJx4a65c_init_da8c8) (List.mem_of_getElem? (i := 15) rfl)) rfl (by decide +kernel) ⟨(Nat.le_of_ble_eq_true rfl), (Nat.le_of_ble_eq_true rfl)⟩) ⟨qs_Pc.blind _ _ _ _, hG.pre _⟩ rfl rfl hl.1 rfl (lv_room (Nat.le_of_ble_eq_true rfl)) dX5_init_20 ⟨Nat.le_trans hkc hmR, Nat.le_trans hks hsR⟩) (fun S20 H locs h hG => ?_)
  obtain ⟨⟨hL21, fK22⟩, h⟩ := h
  refine qr_putRWF hx hb hts in2 in5 hown hG hL21 fK22 2 (by decide) rfl ⟨rfl, rfl⟩ (hts (.fieldLink RX5 18 "QuayMesh$Worker" "remembered" "Ljava/util/ArrayList;") (List.mem_of_getElem? (i := 8) rfl)) (fun _ h9 => h9) (fun _ h9 => h9) rfl hin9 rfl (x := some q11) rfl (tyX1_ok 2 (by decide)) rfl rfl dX5_init_23 (fun H locs hG => ?_)
  refine lv_aload_n hx hb dX5_init_26 rfl (lv_at hl 0 rfl) ?_
  refine lv_iconst (v := (0 : Int32)) hx hb dX5_init_27 (by decide +kernel) ?_
  refine qr_putIW hx hb hts in2 in5 hown hG hL21 fK22 3 (by decide) rfl ⟨rfl, rfl⟩ (hts (.fieldLink RX5 21 "QuayMesh$Worker" "lossesOfMessages" "I") (List.mem_of_getElem? (i := 9) rfl)) (fun _ h9 => h9) (fun _ h9 => h9) rfl (x := (0 : Int32)) (tyX1_ok 3 (by decide)) rfl rfl dX5_init_28 (fun H locs hG => ?_)
  refine lv_aload_n hx hb dX5_init_31 rfl (lv_at hl 0 rfl) ?_
  refine lv_iconst (v := (0 : Int32)) hx hb dX5_init_32 (by decide +kernel) ?_
  refine qr_putIW hx hb hts in2 in5 hown hG hL21 fK22 4 (by decide) rfl ⟨rfl, rfl⟩ (hts (.fieldLink RX5 25 "QuayMesh$Worker" "lossesOfAcks" "I") (List.mem_of_getElem? (i := 10) rfl)) (fun _ h9 => h9) (fun _ h9 => h9) rfl (x := (0 : Int32)) (tyX1_ok 4 (by decide)) rfl rfl dX5_init_33 (fun H locs hG => ?_)
  refine lv_aload_n hx hb dX5_init_36 rfl (lv_at hl 0 rfl) ?_
  refine lv_iconst (v := (0 : Int32)) hx hb dX5_init_37 (by decide +kernel) ?_
  refine qr_putIW hx hb hts in2 in5 hown hG hL21 fK22 5 (by decide) rfl ⟨rfl, rfl⟩ (hts (.fieldLink RX5 28 "QuayMesh$Worker" "isSilent" "Z") (List.mem_of_getElem? (i := 11) rfl)) (fun _ h9 => h9) (fun _ h9 => h9) rfl (x := (0 : Int32)) (tyX1_ok 5 (by decide)) (qs_nar01 (Or.inl rfl)) (qs_fit01 (Or.inl rfl)) dX5_init_38 (fun H locs hG => ?_)
  refine lv_aload_n hx hb dX5_init_41 rfl (lv_at hl 0 rfl) ?_
  refine lv_null hx hb dX5_init_42 ?_
  refine qr_putRW hx hb hts in2 in5 hown hG hL21 fK22 6 (by decide) rfl ⟨rfl, rfl⟩ (hts (.fieldLink RX5 32 "QuayMesh$Worker" "lastAcknowledged" "LQuayMesh$Message;") (List.mem_of_getElem? (i := 12) rfl)) (fun _ h9 => h9) (fun _ h9 => h9) rfl (x := none) rfl (tyX1_ok 6 (by decide)) rfl rfl dX5_init_43 (fun H locs hG => ?_)
  refine lv_aload_n hx hb dX5_init_46 rfl (lv_at hl 0 rfl) ?_
  refine lv_iload_n hx hb dX5_init_47 rfl (lv_at hl 1 rfl) ?_
  refine qr_putIWF hx hb hts in2 in5 hown hG hL21 fK22 0 (by decide) rfl ⟨rfl, rfl⟩ (hts (.fieldLink RX5 36 "QuayMesh$Worker" "number" "I") (List.mem_of_getElem? (i := 13) rfl)) (fun _ h9 => h9) (fun _ h9 => h9) rfl hin9 rfl (x := x1z) (tyX1_ok 0 (by decide)) rfl rfl dX5_init_48 (fun H locs hG => ?_)
  exact qe_v hx hb hr hlk hG h hkc hks dX5_init_51
def wp_X1_init (t0 m9 : Nat) (mc ms : Nat) (post : qs_S → Prop) (SA : qs_S) (a0z : Nat) (x1z : Int32) (x2z : Int32) : Prop := ∃ mck1 msk1 : Nat, (0 + mck1 ≤ mc ∧ 0 + msk1 ≤ ms) ∧ (wp_X5_init t0 m9 mck1 msk1 (fun (S3 : qs_S) => (a0z ∈ qs_L S3 ∧ qs_K S3 a0z = 2) ∧ (post (qs_wI S3 7 a0z x2z))) SA a0z x1z)
set_option maxHeartbeats 4000000 in
set_option maxRecDepth 100000 in
theorem c_X1_init (l : Launch) (g : qs_G) (sz : Nat) (SA : qs_S) (a0z : Nat) (x1z : Int32) (x2z : Int32) {mc ms : Nat} {post : qs_S → Prop} (h : wp_X1_init g.2.2.2.2.2.2.1 g.2.2.2.2.2.2.2 mc ms post SA a0z x1z x2z) : Met l yX1_init wsX1_init ({ frames := 5, cells := mc, slots := ms, locals := 101 } : Room) (qs_Pc g sz SA [.ref a0z, .int x1z, .int x2z]) (qs_Qv g (qs_F g SA sz) post) mc ms (qs_F g SA sz) := by
  refine Met.ofW (cc := cX1_init) (maxL := 3) (ret := none) (by decide +kernel) rfl ?_
  intro p e s m args below meth c s₁ B hml hv
  obtain ⟨rfl, hsz, hG⟩ := qs_Gd.start hv
  subst hsz
  have hx := B.exec
  have hb := B.bytes
  have hr := B.returns
  have hts := atoms_spec (ws := wsX1_init) B.pre
  have hown : s.vm.findClass RX1 = some m.cls := findClass_of_methodNamed B.named
  have hlk := B.notSynchronized
  have hin9 : meth.name = "<init>" := (name_of_methodNamed B.named B.method).1
  have in0 : ∀ w ∈ u_ws RJx4a65c TJx4a65c 3, w ∈ wsX1_init := fun w h => List.mem_cons_of_mem _ (List.mem_append_left _ (List.mem_append_right _ (h)))
  have in2 : ∀ w ∈ u_ws RX1 TX1 8, w ∈ wsX1_init := fun w h => List.mem_cons_of_mem _ (List.mem_append_left _ (List.mem_append_left _ (List.mem_append_right _ (h))))
  have in5 : ∀ w ∈ u_ws RX4 TX4 8, w ∈ wsX1_init := fun w h => List.mem_cons_of_mem _ (List.mem_append_right _ (h))
  have hkc : 0 ≤ mc := Nat.zero_le _
  have hks : 0 ≤ ms := Nat.zero_le _
  have hmR : mc ≤ (headSpec wsX1_init ({ frames := 5, cells := mc, slots := ms, locals := 101 } : Room)).room.cells := Nat.le_refl _
  have hsR : ms ≤ (headSpec wsX1_init ({ frames := 5, cells := mc, slots := ms, locals := 101 } : Room)).room.slots := Nat.le_refl _
  have hl := lv_entry ([.ref a0z, .int x1z, .int x2z]) (n := 3) (Nat.le_of_ble_eq_true rfl)
  rw [lg_entry_eq]
  generalize (lg_sl ([.ref a0z, .int x1z, .int x2z]) ++ List.replicate (3 - (lg_sl ([.ref a0z, .int x1z, .int x2z])).length) Slot.unset).toArray = ls at hl ⊢
  have hl : lv_has ls 3 [(0, .ref a0z), (1, .int x1z), (2, .int x2z)] := hl
  unfold wp_X1_init at h
  refine lv_aload_n hx hb dX1_init_0 rfl (lv_at hl 0 rfl) ?_
  refine lv_iload_n hx hb dX1_init_1 rfl (lv_at hl 1 rfl) ?_
  obtain ⟨mck1, msk1, ⟨hs2c, hs2s⟩, h⟩ := h
  refine qc_v hG (va_runI (As := [.int x1z]) (rest := []) ⟨hx, hb, hml, hown, hts⟩ (c_X5_init l g _ SA a0z x1z h) (cwI 1 hts gX1_init_X5_init rfl rfl rfl (hts (.initialized RX5) (List.mem_of_getElem? (i := 4) rfl)) (hts (.methodLink RX1 1 yX5_init) (List.mem_of_getElem? (i := 2) rfl)) (hts (.instanceMethod yX5_init) (List.mem_of_getElem? (i := 3) rfl)) rfl (by decide +kernel) ⟨(Nat.le_of_ble_eq_true rfl), (Nat.le_of_ble_eq_true rfl)⟩) ⟨qs_Pc.blind _ _ _ _, hG.pre _⟩ rfl rfl hl.1 rfl (lv_room (Nat.le_of_ble_eq_true rfl)) dX1_init_2 ⟨Nat.le_trans hs2c hmR, Nat.le_trans hs2s hsR⟩) (fun S3 H locs h hG => ?_)
  have hkc := hs2c
  have hks := hs2s
  refine lv_aload_n hx hb dX1_init_5 rfl (lv_at hl 0 rfl) ?_
  refine lv_iload_n hx hb dX1_init_6 rfl (lv_at hl 2 rfl) ?_
  obtain ⟨⟨hL4, fK5⟩, h⟩ := h
  refine qr_putI (C := RX1) (T := TX1) (N := 8) (ci := 2) hx hb hts in2 tyX1 tyX1_ok nmX1 hown hG hL4 fK5 (by decide) rfl 7 (by decide) rfl (hts (.fieldLink RX1 7 "QuayMesh$Crane" "place" "I") (List.mem_of_getElem? (i := 1) rfl)) (fun _ h9 => h9) rfl (x := x2z) (tyX1_ok 7 (by decide)) rfl rfl dX1_init_7 (fun H locs hG => ?_)
  exact qe_v hx hb hr hlk hG h hkc hks dX1_init_10
def wp_X4_init (t0 m9 : Nat) (mc ms : Nat) (post : qs_S → Prop) (SA : qs_S) (a0z : Nat) (x1z : Int32) : Prop := ∃ mck1 msk1 : Nat, (0 + mck1 ≤ mc ∧ 0 + msk1 ≤ ms) ∧ (wp_X5_init t0 m9 mck1 msk1 (fun (S3 : qs_S) => (a0z ∈ qs_L S3 ∧ qs_K S3 a0z = 5) ∧ (post (qs_wR S3 7 a0z none))) SA a0z x1z)
set_option maxHeartbeats 4000000 in
set_option maxRecDepth 100000 in
theorem c_X4_init (l : Launch) (g : qs_G) (sz : Nat) (SA : qs_S) (a0z : Nat) (x1z : Int32) {mc ms : Nat} {post : qs_S → Prop} (h : wp_X4_init g.2.2.2.2.2.2.1 g.2.2.2.2.2.2.2 mc ms post SA a0z x1z) : Met l yX4_init wsX4_init ({ frames := 5, cells := mc, slots := ms, locals := 101 } : Room) (qs_Pc g sz SA [.ref a0z, .int x1z]) (qs_Qv g (qs_F g SA sz) post) mc ms (qs_F g SA sz) := by
  refine Met.ofW (cc := cX4_init) (maxL := 2) (ret := none) (by decide +kernel) rfl ?_
  intro p e s m args below meth c s₁ B hml hv
  obtain ⟨rfl, hsz, hG⟩ := qs_Gd.start hv
  subst hsz
  have hx := B.exec
  have hb := B.bytes
  have hr := B.returns
  have hts := atoms_spec (ws := wsX4_init) B.pre
  have hown : s.vm.findClass RX4 = some m.cls := findClass_of_methodNamed B.named
  have hlk := B.notSynchronized
  have hin9 : meth.name = "<init>" := (name_of_methodNamed B.named B.method).1
  have in0 : ∀ w ∈ u_ws RJx4a65c TJx4a65c 3, w ∈ wsX4_init := fun w h => List.mem_cons_of_mem _ (List.mem_append_left _ (List.mem_append_right _ (h)))
  have in2 : ∀ w ∈ u_ws RX1 TX1 8, w ∈ wsX4_init := fun w h => List.mem_cons_of_mem _ (List.mem_append_right _ (h))
  have in5 : ∀ w ∈ u_ws RX4 TX4 8, w ∈ wsX4_init := fun w h => List.mem_cons_of_mem _ (List.mem_append_left _ (List.mem_append_left _ (List.mem_append_right _ (h))))
  have hkc : 0 ≤ mc := Nat.zero_le _
  have hks : 0 ≤ ms := Nat.zero_le _
  have hmR : mc ≤ (headSpec wsX4_init ({ frames := 5, cells := mc, slots := ms, locals := 101 } : Room)).room.cells := Nat.le_refl _
  have hsR : ms ≤ (headSpec wsX4_init ({ frames := 5, cells := mc, slots := ms, locals := 101 } : Room)).room.slots := Nat.le_refl _
  have hl := lv_entry ([.ref a0z, .int x1z]) (n := 2) (Nat.le_of_ble_eq_true rfl)
  rw [lg_entry_eq]
  generalize (lg_sl ([.ref a0z, .int x1z]) ++ List.replicate (2 - (lg_sl ([.ref a0z, .int x1z])).length) Slot.unset).toArray = ls at hl ⊢
  have hl : lv_has ls 2 [(0, .ref a0z), (1, .int x1z)] := hl
  unfold wp_X4_init at h
  refine lv_aload_n hx hb dX4_init_0 rfl (lv_at hl 0 rfl) ?_
  refine lv_iload_n hx hb dX4_init_1 rfl (lv_at hl 1 rfl) ?_
  obtain ⟨mck1, msk1, ⟨hs2c, hs2s⟩, h⟩ := h
  refine qc_v hG (va_runI (As := [.int x1z]) (rest := []) ⟨hx, hb, hml, hown, hts⟩ (c_X5_init l g _ SA a0z x1z h) (cwI 1 hts gX4_init_X5_init rfl rfl rfl (hts (.initialized RX5) (List.mem_of_getElem? (i := 4) rfl)) (hts (.methodLink RX4 1 yX5_init) (List.mem_of_getElem? (i := 2) rfl)) (hts (.instanceMethod yX5_init) (List.mem_of_getElem? (i := 3) rfl)) rfl (by decide +kernel) ⟨(Nat.le_of_ble_eq_true rfl), (Nat.le_of_ble_eq_true rfl)⟩) ⟨qs_Pc.blind _ _ _ _, hG.pre _⟩ rfl rfl hl.1 rfl (lv_room (Nat.le_of_ble_eq_true rfl)) dX4_init_2 ⟨Nat.le_trans hs2c hmR, Nat.le_trans hs2s hsR⟩) (fun S3 H locs h hG => ?_)
  have hkc := hs2c
  have hks := hs2s
  refine lv_aload_n hx hb dX4_init_5 rfl (lv_at hl 0 rfl) ?_
  refine lv_null hx hb dX4_init_6 ?_
  obtain ⟨⟨hL4, fK5⟩, h⟩ := h
  refine qr_putR (C := RX4) (T := TX4) (N := 8) (ci := 5) hx hb hts in5 tyX4 tyX4_ok nmX4 hown hG hL4 fK5 (by decide) rfl 7 (by decide) rfl (hts (.fieldLink RX4 7 "QuayMesh$Truck" "lastSeen" "LQuayMesh$Message;") (List.mem_of_getElem? (i := 1) rfl)) (fun _ h9 => h9) rfl (x := none) rfl (tyX4_ok 7 (by decide)) rfl rfl dX4_init_7 (fun H locs hG => ?_)
  exact qe_v hx hb hr hlk hG h hkc hks dX4_init_10
def wp_X6_indexOf_c2 (t0 m9 : Nat) (post : Int32 → qs_S → Prop) (K2 : qs_S → Nat → Nat → Int32 → Prop) (S : qs_S) (a0 : Nat) (a1 : Nat) (x2 : Int32) : Prop := (a1 ∈ qs_L S ∧ qs_K S a1 = 0) ∧ (wp_Jx4a65c_size_8abf5 t0 m9 (fun (v6 : Int32) (S5 : qs_S) => (v6 ≤ x2 → (post (-1 : Int32) S5)) ∧ (¬ v6 ≤ x2 → ((a1 ∈ qs_L S5 ∧ qs_K S5 a1 = 0) ∧ (wp_Jx4a65c_get_915e3 t0 m9 (fun (o13 : Option Nat) (S12 : qs_S) => ∃ q14 : Nat, o13 = some q14 ∧ ((¬ q14 = a0 → (∀ v16 : Int32, v16 = x2 + 1 → K2 S12 a0 a1 v16)) ∧ (q14 = a0 → (post x2 S12)))) S5 a1 x2)))) S a1)
def wp_X6_indexOf_b2 (t0 m9 : Nat) (post : Int32 → qs_S → Prop) : Nat → qs_S → Nat → Nat → Int32 → Prop
  | 0 => fun _ _ _ _ => False
  | n9 + 1 => wp_X6_indexOf_c2 t0 m9 post (wp_X6_indexOf_b2 t0 m9 post n9)
def wp_X6_indexOf (t0 m9 : Nat) (post : Int32 → qs_S → Prop) (SA : qs_S) (a0z : Nat) (a1z : Nat) : Prop := ∃ n17 : Nat, wp_X6_indexOf_b2 t0 m9 post n17 SA a0z a1z (0 : Int32)
set_option maxHeartbeats 4000000 in
set_option maxRecDepth 100000 in
theorem c_X6_indexOf (l : Launch) (g : qs_G) (sz : Nat) (SA : qs_S) (a0z : Nat) (a1z : Nat) {post : Int32 → qs_S → Prop} (h : wp_X6_indexOf g.2.2.2.2.2.2.1 g.2.2.2.2.2.2.2 post SA a0z a1z) : Met l yX6_indexOf wsX6_indexOf ({ frames := 3, cells := 0, slots := 0, locals := 64 } : Room) (qs_Pc g sz SA [.ref a0z, .ref a1z]) (qs_Qi g (qs_F g SA sz) post) 0 0 (qs_F g SA sz) := by
  refine Met.ofW (cc := cX6_indexOf) (maxL := 3) (ret := (some .int)) (by decide +kernel) rfl ?_
  intro p e s m args below meth c s₁ B hml hv
  obtain ⟨rfl, hsz, hG⟩ := qs_Gd.start hv
  subst hsz
  have hx := B.exec
  have hb := B.bytes
  have hr := B.returns
  have hts := atoms_spec (ws := wsX6_indexOf) B.pre
  have hown : s.vm.findClass RX6 = some m.cls := findClass_of_methodNamed B.named
  have hlk := B.notSynchronized
  have in0 : ∀ w ∈ u_ws RJx4a65c TJx4a65c 3, w ∈ wsX6_indexOf := fun w h => List.mem_cons_of_mem _ (List.mem_append_right _ (h))
  have c2 : ∀ (K2 : qs_S → Nat → Nat → Int32 → Prop), (∀ (S : qs_S) (a0 : Nat) (a1 : Nat) (x2 : Int32) (H : Heap) (locs : List Loc) (ls : Array Slot), K2 S a0 a1 x2 → qs_Gd g (qs_F g SA s.heap.size) s S H locs → lv_has ls 3 [(0, .ref a0), (1, .ref a1), (2, .int x2)] → W p l e (headSpec wsX6_indexOf ({ frames := 3, cells := 0, slots := 0, locals := 64 } : Room)).room s m (([.ref a0z, .ref a1z] : List Value)).toArray below meth c H locs 0 0 (MQ below (qs_Qi g (qs_F g SA s.heap.size) post) (([.ref a0z, .ref a1z] : List Value)).toArray s 0 0 (qs_F g SA s.heap.size)) (F0 m 2 ls [])) → ∀ (S : qs_S) (a0 : Nat) (a1 : Nat) (x2 : Int32) (H : Heap) (locs : List Loc) (ls : Array Slot), wp_X6_indexOf_c2 g.2.2.2.2.2.2.1 g.2.2.2.2.2.2.2 post K2 S a0 a1 x2 → qs_Gd g (qs_F g SA s.heap.size) s S H locs → lv_has ls 3 [(0, .ref a0), (1, .ref a1), (2, .int x2)] → W p l e (headSpec wsX6_indexOf ({ frames := 3, cells := 0, slots := 0, locals := 64 } : Room)).room s m (([.ref a0z, .ref a1z] : List Value)).toArray below meth c H locs 0 0 (MQ below (qs_Qi g (qs_F g SA s.heap.size) post) (([.ref a0z, .ref a1z] : List Value)).toArray s 0 0 (qs_F g SA s.heap.size)) (F0 m 2 ls []) := by
    intro K2 hK2 S a0 a1 x2 H locs ls h hG hl
    unfold wp_X6_indexOf_c2 at h
    refine lv_iload_n hx hb dX6_indexOf_2 rfl (lv_at hl 2 rfl) ?_
    refine lv_aload_n hx hb dX6_indexOf_3 rfl (lv_at hl 1 rfl) ?_
    obtain ⟨⟨hL3, fK4⟩, h⟩ := h
    refine qc_i hG (va_runV (As := []) (rest := [.int x2]) ⟨hx, hb, hml, hown, hts⟩ (c_Jx4a65c_size_8abf5 l g _ S a1 h) (cwV 0 hts gX6_indexOf_Jx4a65c_size_8abf5 rfl rfl rfl (by decide +kernel) ⟨(Nat.le_of_ble_eq_true rfl), (Nat.le_of_ble_eq_true rfl)⟩) ⟨qs_Pc.blind _ _ _ _, hG.recv hL3 fK4 (by decide) rfl, hG.pre _⟩ rfl rfl hl.1 rfl (lv_room (Nat.le_of_ble_eq_true rfl)) dX6_indexOf_4 ⟨Nat.zero_le _, Nat.zero_le _⟩) (fun v6 S5 H locs h hG => ?_)
    refine lv_icmp_ge (tgt := 27) hx hb dX6_indexOf_7 (by decide) (fun c7 => ?_) (fun c7 => ?_)
    · have h := h.1 c7
      refine lv_iconst (v := (-1 : Int32)) hx hb dX6_indexOf_27 (by decide +kernel) ?_
      exact qe_i hx hb hr hlk hG h (Nat.le_refl _) (Nat.le_refl _) dX6_indexOf_28
    · have h := h.2 c7
      refine lv_aload_n hx hb dX6_indexOf_10 rfl (lv_at hl 1 rfl) ?_
      refine lv_iload_n hx hb dX6_indexOf_11 rfl (lv_at hl 2 rfl) ?_
      obtain ⟨⟨hL10, fK11⟩, h⟩ := h
      refine qc_q hG (va_runV (As := [.int x2]) (rest := []) ⟨hx, hb, hml, hown, hts⟩ (c_Jx4a65c_get_915e3 l g _ S5 a1 x2 h) (cwV 1 hts gX6_indexOf_Jx4a65c_get_915e3 rfl rfl rfl (by decide +kernel) ⟨(Nat.le_of_ble_eq_true rfl), (Nat.le_of_ble_eq_true rfl)⟩) ⟨qs_Pc.blind _ _ _ _, hG.recv hL10 fK11 (by decide) rfl, hG.pre _⟩ rfl rfl hl.1 rfl (lv_room (Nat.le_of_ble_eq_true rfl)) dX6_indexOf_12 ⟨Nat.zero_le _, Nat.zero_le _⟩) (fun o13 S12 H locs h hG => ?_)
      obtain ⟨q14, rfl, h⟩ := h
      refine lv_aload_n hx hb dX6_indexOf_15 rfl (lv_at hl 0 rfl) ?_
      refine lv_acmp_ne (rx := (some q14)) (ry := (some a0)) (tgt := 21) hx hb dX6_indexOf_16 (by decide) (fun c15 => ?_) (fun c15 => ?_)
      · have h := h.1 (fun z => c15 (congrArg some z))
        obtain ⟨v16, ev16⟩ : ∃ y : Int32, y = x2 + 1 := ⟨_, rfl⟩
        have h := h v16 ev16
        refine lv_iinc (v := v16) (lv' := [(2, .int v16), (0, .ref a0), (1, .ref a1)]) hx hb dX6_indexOf_21 hl (k := 2) rfl (by rw [ev16]; rfl) (by decide) rfl (fun ls hl => ?_)
        refine lv_goto (tgt := 2) hx hb dX6_indexOf_24 (by decide) ?_
        exact hK2 S12 a0 a1 v16 _ _ ls h hG (lv_sub hl [1, 2, 0] rfl)
      · have h := h.2 (Option.some.inj c15)
        refine lv_iload_n hx hb dX6_indexOf_19 rfl (lv_at hl 2 rfl) ?_
        exact qe_i hx hb hr hlk hG h (Nat.le_refl _) (Nat.le_refl _) dX6_indexOf_20
  have b2 : ∀ n9 : Nat, ∀ (S : qs_S) (a0 : Nat) (a1 : Nat) (x2 : Int32) (H : Heap) (locs : List Loc) (ls : Array Slot), wp_X6_indexOf_b2 g.2.2.2.2.2.2.1 g.2.2.2.2.2.2.2 post n9 S a0 a1 x2 → qs_Gd g (qs_F g SA s.heap.size) s S H locs → lv_has ls 3 [(0, .ref a0), (1, .ref a1), (2, .int x2)] → W p l e (headSpec wsX6_indexOf ({ frames := 3, cells := 0, slots := 0, locals := 64 } : Room)).room s m (([.ref a0z, .ref a1z] : List Value)).toArray below meth c H locs 0 0 (MQ below (qs_Qi g (qs_F g SA s.heap.size) post) (([.ref a0z, .ref a1z] : List Value)).toArray s 0 0 (qs_F g SA s.heap.size)) (F0 m 2 ls []) := by
    intro n9
    induction n9 with
    | zero =>
      intro S a0 a1 x2 H locs ls h hG hl
      exact False.elim h
    | succ n9 ih => exact c2 _ ih
  have hl := lv_entry ([.ref a0z, .ref a1z]) (n := 3) (Nat.le_of_ble_eq_true rfl)
  rw [lg_entry_eq]
  generalize (lg_sl ([.ref a0z, .ref a1z]) ++ List.replicate (3 - (lg_sl ([.ref a0z, .ref a1z])).length) Slot.unset).toArray = ls at hl ⊢
  have hl : lv_has ls 3 [(0, .ref a0z), (1, .ref a1z)] := hl
  unfold wp_X6_indexOf at h
  refine lv_iconst (v := (0 : Int32)) hx hb dX6_indexOf_0 (by decide +kernel) ?_
  refine lv_istore_n (lv' := [(2, .int (0 : Int32)), (0, .ref a0z), (1, .ref a1z)]) hx hb dX6_indexOf_1 rfl hl (by decide) rfl (fun ls hl => ?_)
  obtain ⟨n17, h⟩ := h
  exact b2 n17 SA a0z a1z (0 : Int32) _ _ ls h hG (lv_sub hl [1, 2, 0] rfl)
def wp_X5_takeOut_b23 (t0 m9 : Nat) (post : qs_S → Prop) (S : qs_S) : Prop := post S
def wp_X5_takeOut (t0 m9 : Nat) (post : qs_S → Prop) (SA : qs_S) (a0z : Nat) (a1z : Nat) : Prop := (a0z ∈ qs_L SA ∧ (qs_K SA a0z = 2 ∨ qs_K SA a0z = 5)) ∧ (∃ q3 : Nat, qs_R SA 1 a0z = some q3 ∧ (wp_X6_indexOf t0 m9 (fun (v7 : Int32) (S6 : qs_S) => (v7 = (-1 : Int32) → (wp_X5_takeOut_b23 t0 m9 post S6)) ∧ (¬ v7 = (-1 : Int32) → ((a0z ∈ qs_L S6 ∧ (qs_K S6 a0z = 2 ∨ qs_K S6 a0z = 5)) ∧ (∃ q11 : Nat, qs_R S6 1 a0z = some q11 ∧ ((q11 ∈ qs_L S6 ∧ qs_K S6 q11 = 0) ∧ (wp_Jx4a65c_remove_915e3 t0 m9 (fun (o17 : Option Nat) (S16 : qs_S) => ∃ q18 : Nat, o17 = some q18 ∧ (wp_X5_takeOut_b23 t0 m9 post S16)) S6 q11 v7)))))) SA a1z q3))
set_option maxHeartbeats 4000000 in
set_option maxRecDepth 100000 in
theorem c_X5_takeOut (l : Launch) (g : qs_G) (sz : Nat) (SA : qs_S) (a0z : Nat) (a1z : Nat) {post : qs_S → Prop} (h : wp_X5_takeOut g.2.2.2.2.2.2.1 g.2.2.2.2.2.2.2 post SA a0z a1z) : Met l yX5_takeOut wsX5_takeOut ({ frames := 4, cells := 0, slots := 0, locals := 106 } : Room) (qs_Pc g sz SA [.ref a0z, .ref a1z]) (qs_Qv g (qs_F g SA sz) post) 0 0 (qs_F g SA sz) := by
  refine Met.ofW (cc := cX5_takeOut) (maxL := 3) (ret := none) (by decide +kernel) rfl ?_
  intro p e s m args below meth c s₁ B hml hv
  obtain ⟨rfl, hsz, hG⟩ := qs_Gd.start hv
  subst hsz
  have hx := B.exec
  have hb := B.bytes
  have hr := B.returns
  have hts := atoms_spec (ws := wsX5_takeOut) B.pre
  have hown : s.vm.findClass RX5 = some m.cls := findClass_of_methodNamed B.named
  have hlk := B.notSynchronized
  have in0 : ∀ w ∈ u_ws RJx4a65c TJx4a65c 3, w ∈ wsX5_takeOut := fun w h => List.mem_cons_of_mem _ (List.mem_append_right _ (h))
  have in2 : ∀ w ∈ u_ws RX1 TX1 8, w ∈ wsX5_takeOut := fun w h => List.mem_cons_of_mem _ (List.mem_append_left _ (List.mem_append_left _ (List.mem_append_right _ (h))))
  have in5 : ∀ w ∈ u_ws RX4 TX4 8, w ∈ wsX5_takeOut := fun w h => List.mem_cons_of_mem _ (List.mem_append_left _ (List.mem_append_right _ (h)))
  have b23 : ∀ (S : qs_S) (H : Heap) (locs : List Loc) (ls : Array Slot), wp_X5_takeOut_b23 g.2.2.2.2.2.2.1 g.2.2.2.2.2.2.2 post S → qs_Gd g (qs_F g SA s.heap.size) s S H locs → lv_has ls 3 [] → W p l e (headSpec wsX5_takeOut ({ frames := 4, cells := 0, slots := 0, locals := 106 } : Room)).room s m (([.ref a0z, .ref a1z] : List Value)).toArray below meth c H locs 0 0 (MQ below (qs_Qv g (qs_F g SA s.heap.size) post) (([.ref a0z, .ref a1z] : List Value)).toArray s 0 0 (qs_F g SA s.heap.size)) (F0 m 23 ls []) := by
    intro S H locs ls h hG hl
    unfold wp_X5_takeOut_b23 at h
    exact qe_v hx hb hr hlk hG h (Nat.le_refl _) (Nat.le_refl _) dX5_takeOut_23
  have hl := lv_entry ([.ref a0z, .ref a1z]) (n := 3) (Nat.le_of_ble_eq_true rfl)
  rw [lg_entry_eq]
  generalize (lg_sl ([.ref a0z, .ref a1z]) ++ List.replicate (3 - (lg_sl ([.ref a0z, .ref a1z])).length) Slot.unset).toArray = ls at hl ⊢
  have hl : lv_has ls 3 [(0, .ref a0z), (1, .ref a1z)] := hl
  unfold wp_X5_takeOut at h
  refine lv_aload_n hx hb dX5_takeOut_0 rfl (lv_at hl 1 rfl) ?_
  refine lv_aload_n hx hb dX5_takeOut_1 rfl (lv_at hl 0 rfl) ?_
  obtain ⟨⟨hL1, fK2⟩, h⟩ := h
  obtain ⟨q3, eq3, h⟩ := h
  refine qr_getW hx hb hts in2 in5 hown hG hL1 fK2 1 (by decide) rfl ⟨rfl, rfl⟩ (hts (.fieldLink RX5 12 "QuayMesh$Worker" "waiting" "Ljava/util/ArrayList;") (List.mem_of_getElem? (i := 1) rfl)) (fun _ h9 => h9) (fun _ h9 => h9) (v := .ref q3) (qs_rf eq3) dX5_takeOut_2 ?_
  refine qc_i hG (va_runSN (As := [.ref a1z, .ref q3]) (rest := []) ⟨hx, hb, hml, hown, hts⟩ (c_X6_indexOf l g _ SA a1z q3 h) ⟨va_cnB 2 hts gX5_takeOut_X6_indexOf_n39 rfl rfl rfl hG.2.2.2.2.2.2.2.2.2.2.2.2.2.1.2.2 (hts (.initialized RX6) (List.mem_of_getElem? (i := 3) rfl)) (by decide +kernel) ⟨(Nat.le_of_ble_eq_true rfl), (Nat.le_of_ble_eq_true rfl)⟩, (hts (.static yX6_indexOf) (List.mem_of_getElem? (i := 2) rfl)), trivial⟩ ⟨qs_Pc.blind _ _ _ _, hG.pre _⟩ rfl rfl hl.1 rfl (lv_room (Nat.le_of_ble_eq_true rfl)) dX5_takeOut_5 ⟨Nat.zero_le _, Nat.zero_le _⟩) (fun v7 S6 H locs h hG => ?_)
  refine lv_istore_n (lv' := [(2, .int v7), (0, .ref a0z), (1, .ref a1z)]) hx hb dX5_takeOut_8 rfl hl (by decide) rfl (fun ls hl => ?_)
  refine lv_iload_n hx hb dX5_takeOut_9 rfl (lv_at hl 0 rfl) ?_
  refine lv_iconst (v := (-1 : Int32)) hx hb dX5_takeOut_10 (by decide +kernel) ?_
  refine lv_icmp_eq (tgt := 23) hx hb dX5_takeOut_11 (by decide) (fun c8 => ?_) (fun c8 => ?_)
  · have h := h.1 c8
    exact b23 S6 _ _ ls h hG (lv_sub hl [] rfl)
  · have h := h.2 c8
    refine lv_aload_n hx hb dX5_takeOut_14 rfl (lv_at hl 1 rfl) ?_
    obtain ⟨⟨hL9, fK10⟩, h⟩ := h
    obtain ⟨q11, eq11, h⟩ := h
    refine qr_getW hx hb hts in2 in5 hown hG hL9 fK10 1 (by decide) rfl ⟨rfl, rfl⟩ (hts (.fieldLink RX5 12 "QuayMesh$Worker" "waiting" "Ljava/util/ArrayList;") (List.mem_of_getElem? (i := 1) rfl)) (fun _ h9 => h9) (fun _ h9 => h9) (v := .ref q11) (qs_rf eq11) dX5_takeOut_15 ?_
    refine lv_iload_n hx hb dX5_takeOut_18 rfl (lv_at hl 0 rfl) ?_
    obtain ⟨⟨hL14, fK15⟩, h⟩ := h
    refine qc_q hG (va_runV (As := [.int v7]) (rest := []) ⟨hx, hb, hml, hown, hts⟩ (c_Jx4a65c_remove_915e3 l g _ S6 q11 v7 h) (cwV 1 hts gX5_takeOut_Jx4a65c_remove_915e3 rfl rfl rfl (by decide +kernel) ⟨(Nat.le_of_ble_eq_true rfl), (Nat.le_of_ble_eq_true rfl)⟩) ⟨qs_Pc.blind _ _ _ _, hG.recv hL14 fK15 (by decide) rfl, hG.pre _⟩ rfl rfl hl.1 rfl (lv_room (Nat.le_of_ble_eq_true rfl)) dX5_takeOut_19 ⟨Nat.zero_le _, Nat.zero_le _⟩) (fun o17 S16 H locs h hG => ?_)
    obtain ⟨q18, rfl, h⟩ := h
    refine lv_pop hx hb dX5_takeOut_22 rfl ?_
    exact b23 S16 _ _ ls h hG (lv_sub hl [] rfl)
def wp_X5_putLast (t0 m9 : Nat) (mc ms : Nat) (post : qs_S → Prop) (SA : qs_S) (a0z : Nat) (a1z : Nat) : Prop := (a0z ∈ qs_L SA ∧ (qs_K SA a0z = 2 ∨ qs_K SA a0z = 5)) ∧ (wp_X5_takeOut t0 m9 (fun (S5 : qs_S) => (a0z ∈ qs_L S5 ∧ (qs_K S5 a0z = 2 ∨ qs_K S5 a0z = 5)) ∧ (∃ q8 : Nat, qs_R S5 1 a0z = some q8 ∧ ((q8 ∈ qs_L S5 ∧ qs_K S5 q8 = 0) ∧ (∃ mck9 msk9 : Nat, (0 + mck9 ≤ mc ∧ 0 + msk9 ≤ ms) ∧ (wp_Jx4a65c_add_9ea2d t0 m9 mck9 msk9 (fun (v14 : Int32) (S13 : qs_S) => post S13) S5 q8 a1z))))) SA a0z a1z)
set_option maxHeartbeats 4000000 in
set_option maxRecDepth 100000 in
theorem c_X5_putLast (l : Launch) (g : qs_G) (sz : Nat) (SA : qs_S) (a0z : Nat) (a1z : Nat) {mc ms : Nat} {post : qs_S → Prop} (h : wp_X5_putLast g.2.2.2.2.2.2.1 g.2.2.2.2.2.2.2 mc ms post SA a0z a1z) : Met l yX5_putLast wsX5_putLast ({ frames := 7, cells := mc, slots := ms, locals := 191 } : Room) (qs_Pc g sz SA [.ref a0z, .ref a1z]) (qs_Qv g (qs_F g SA sz) post) mc ms (qs_F g SA sz) := by
  refine Met.ofW (cc := cX5_putLast) (maxL := 2) (ret := none) (by decide +kernel) rfl ?_
  intro p e s m args below meth c s₁ B hml hv
  obtain ⟨rfl, hsz, hG⟩ := qs_Gd.start hv
  subst hsz
  have hx := B.exec
  have hb := B.bytes
  have hr := B.returns
  have hts := atoms_spec (ws := wsX5_putLast) B.pre
  have hown : s.vm.findClass RX5 = some m.cls := findClass_of_methodNamed B.named
  have hlk := B.notSynchronized
  have in0 : ∀ w ∈ u_ws RJx4a65c TJx4a65c 3, w ∈ wsX5_putLast := fun w h => List.mem_cons_of_mem _ (List.mem_append_right _ (h))
  have in2 : ∀ w ∈ u_ws RX1 TX1 8, w ∈ wsX5_putLast := fun w h => List.mem_cons_of_mem _ (List.mem_append_left _ (List.mem_append_left _ (List.mem_append_right _ (h))))
  have in5 : ∀ w ∈ u_ws RX4 TX4 8, w ∈ wsX5_putLast := fun w h => List.mem_cons_of_mem _ (List.mem_append_left _ (List.mem_append_right _ (h)))
  have hkc : 0 ≤ mc := Nat.zero_le _
  have hks : 0 ≤ ms := Nat.zero_le _
  have hmR : mc ≤ (headSpec wsX5_putLast ({ frames := 7, cells := mc, slots := ms, locals := 191 } : Room)).room.cells := Nat.le_refl _
  have hsR : ms ≤ (headSpec wsX5_putLast ({ frames := 7, cells := mc, slots := ms, locals := 191 } : Room)).room.slots := Nat.le_refl _
  have hl := lv_entry ([.ref a0z, .ref a1z]) (n := 2) (Nat.le_of_ble_eq_true rfl)
  rw [lg_entry_eq]
  generalize (lg_sl ([.ref a0z, .ref a1z]) ++ List.replicate (2 - (lg_sl ([.ref a0z, .ref a1z])).length) Slot.unset).toArray = ls at hl ⊢
  have hl : lv_has ls 2 [(0, .ref a0z), (1, .ref a1z)] := hl
  unfold wp_X5_putLast at h
  refine lv_aload_n hx hb dX5_putLast_0 rfl (lv_at hl 0 rfl) ?_
  refine lv_aload_n hx hb dX5_putLast_1 rfl (lv_at hl 1 rfl) ?_
  obtain ⟨⟨hL3, fK4⟩, h⟩ := h
  refine qc_v hG (Or.elim fK4 (fun hk9 => va_runU (As := [.ref a1z]) (rest := []) ⟨hx, hb, hml, hown, hts⟩ (c_X5_takeOut l g _ SA a0z a1z h) (va_cwU 1 hts gX5_putLast_X5_takeOut_u47X1 rfl rfl rfl rfl (by decide +kernel) ⟨(Nat.le_of_ble_eq_true rfl), (Nat.le_of_ble_eq_true rfl)⟩) ⟨qs_Pc.blind _ _ _ _, hG.recv hL3 hk9 (by decide) rfl, hG.pre _⟩ rfl rfl hl.1 rfl (lv_room (Nat.le_of_ble_eq_true rfl)) dX5_putLast_2 ⟨Nat.le_trans hkc hmR, Nat.le_trans hks hsR⟩) (fun hk9 => va_runU (As := [.ref a1z]) (rest := []) ⟨hx, hb, hml, hown, hts⟩ (c_X5_takeOut l g _ SA a0z a1z h) (va_cwU 1 hts gX5_putLast_X5_takeOut_u47X4 rfl rfl rfl rfl (by decide +kernel) ⟨(Nat.le_of_ble_eq_true rfl), (Nat.le_of_ble_eq_true rfl)⟩) ⟨qs_Pc.blind _ _ _ _, hG.recv hL3 hk9 (by decide) rfl, hG.pre _⟩ rfl rfl hl.1 rfl (lv_room (Nat.le_of_ble_eq_true rfl)) dX5_putLast_2 ⟨Nat.le_trans hkc hmR, Nat.le_trans hks hsR⟩)) (fun S5 H locs h hG => ?_)
  refine lv_aload_n hx hb dX5_putLast_5 rfl (lv_at hl 0 rfl) ?_
  obtain ⟨⟨hL6, fK7⟩, h⟩ := h
  obtain ⟨q8, eq8, h⟩ := h
  refine qr_getW hx hb hts in2 in5 hown hG hL6 fK7 1 (by decide) rfl ⟨rfl, rfl⟩ (hts (.fieldLink RX5 12 "QuayMesh$Worker" "waiting" "Ljava/util/ArrayList;") (List.mem_of_getElem? (i := 1) rfl)) (fun _ h9 => h9) (fun _ h9 => h9) (v := .ref q8) (qs_rf eq8) dX5_putLast_6 ?_
  refine lv_aload_n hx hb dX5_putLast_9 rfl (lv_at hl 1 rfl) ?_
  obtain ⟨⟨hL11, fK12⟩, h⟩ := h
  obtain ⟨mck9, msk9, ⟨hs10c, hs10s⟩, h⟩ := h
  refine qc_i hG (va_runV (As := [.ref a1z]) (rest := []) ⟨hx, hb, hml, hown, hts⟩ (c_Jx4a65c_add_9ea2d l g _ S5 q8 a1z h) (cwV 1 hts gX5_putLast_Jx4a65c_add_9ea2d rfl rfl rfl (by decide +kernel) ⟨(Nat.le_of_ble_eq_true rfl), (Nat.le_of_ble_eq_true rfl)⟩) ⟨qs_Pc.blind _ _ _ _, hG.recv hL11 fK12 (by decide) rfl, hG.pre _⟩ rfl rfl hl.1 rfl (lv_room (Nat.le_of_ble_eq_true rfl)) dX5_putLast_10 ⟨Nat.le_trans hs10c hmR, Nat.le_trans hs10s hsR⟩) (fun v14 S13 H locs h hG => ?_)
  have hkc := hs10c
  have hks := hs10s
  refine lv_pop hx hb dX5_putLast_13 rfl ?_
  exact qe_v hx hb hr hlk hG h hkc hks dX5_putLast_14
def wp_X6_targetsOf_b17 (t0 m9 : Nat) (post : Int32 → qs_S → Prop) (S : qs_S) (s0 : Int32) : Prop := post s0 S
def wp_X6_targetsOf (t0 m9 : Nat) (post : Int32 → qs_S → Prop) (SA : qs_S) (x0z : Int32) : Prop := (¬ x0z = 0 → ((¬ x0z = (1 : Int32) → (wp_X6_targetsOf_b17 t0 m9 post SA (2 : Int32))) ∧ (x0z = (1 : Int32) → (wp_X6_targetsOf_b17 t0 m9 post SA (6 : Int32))))) ∧ (x0z = 0 → (post (1 : Int32) SA))
set_option maxHeartbeats 4000000 in
set_option maxRecDepth 100000 in
theorem c_X6_targetsOf (l : Launch) (g : qs_G) (sz : Nat) (SA : qs_S) (x0z : Int32) {post : Int32 → qs_S → Prop} (h : wp_X6_targetsOf g.2.2.2.2.2.2.1 g.2.2.2.2.2.2.2 post SA x0z) : Met l yX6_targetsOf wsX6_targetsOf ({ frames := 0, cells := 0, slots := 0, locals := 0 } : Room) (qs_Pc g sz SA [.int x0z]) (qs_Qi g (qs_F g SA sz) post) 0 0 (qs_F g SA sz) := by
  refine Met.ofW (cc := cX6_targetsOf) (maxL := 1) (ret := (some .int)) (by decide +kernel) rfl ?_
  intro p e s m args below meth c s₁ B hml hv
  obtain ⟨rfl, hsz, hG⟩ := qs_Gd.start hv
  subst hsz
  have hx := B.exec
  have hb := B.bytes
  have hr := B.returns
  have hts := atoms_spec (ws := wsX6_targetsOf) B.pre
  have hown : s.vm.findClass RX6 = some m.cls := findClass_of_methodNamed B.named
  have hlk := B.notSynchronized
  have b17 : ∀ (S : qs_S) (s0 : Int32) (H : Heap) (locs : List Loc) (ls : Array Slot), wp_X6_targetsOf_b17 g.2.2.2.2.2.2.1 g.2.2.2.2.2.2.2 post S s0 → qs_Gd g (qs_F g SA s.heap.size) s S H locs → lv_has ls 1 [] → W p l e (headSpec wsX6_targetsOf ({ frames := 0, cells := 0, slots := 0, locals := 0 } : Room)).room s m (([.int x0z] : List Value)).toArray below meth c H locs 0 0 (MQ below (qs_Qi g (qs_F g SA s.heap.size) post) (([.int x0z] : List Value)).toArray s 0 0 (qs_F g SA s.heap.size)) (F0 m 17 ls [.int s0]) := by
    intro S s0 H locs ls h hG hl
    unfold wp_X6_targetsOf_b17 at h
    exact qe_i hx hb hr hlk hG h (Nat.le_refl _) (Nat.le_refl _) dX6_targetsOf_17
  have hl := lv_entry ([.int x0z]) (n := 1) (Nat.le_of_ble_eq_true rfl)
  rw [lg_entry_eq]
  generalize (lg_sl ([.int x0z]) ++ List.replicate (1 - (lg_sl ([.int x0z])).length) Slot.unset).toArray = ls at hl ⊢
  have hl : lv_has ls 1 [(0, .int x0z)] := hl
  unfold wp_X6_targetsOf at h
  refine lv_iload_n hx hb dX6_targetsOf_0 rfl (lv_at hl 0 rfl) ?_
  refine lv_if_ne (tgt := 6) hx hb dX6_targetsOf_1 (by decide) (fun c1 => ?_) (fun c1 => ?_)
  · have h := h.1 c1
    refine lv_iload_n hx hb dX6_targetsOf_6 rfl (lv_at hl 0 rfl) ?_
    refine lv_iconst (v := (1 : Int32)) hx hb dX6_targetsOf_7 (by decide +kernel) ?_
    refine lv_icmp_ne (tgt := 16) hx hb dX6_targetsOf_8 (by decide) (fun c2 => ?_) (fun c2 => ?_)
    · have h := h.1 c2
      refine lv_iconst (v := (2 : Int32)) hx hb dX6_targetsOf_16 (by decide +kernel) ?_
      exact b17 SA (2 : Int32) _ _ ls h hG (lv_sub hl [] rfl)
    · have h := h.2 c2
      refine lv_bipush (v := (6 : Int32)) hx hb dX6_targetsOf_11 (by decide +kernel) ?_
      refine lv_goto (tgt := 17) hx hb dX6_targetsOf_13 (by decide) ?_
      exact b17 SA (6 : Int32) _ _ ls h hG (lv_sub hl [] rfl)
  · have h := h.2 c1
    refine lv_iconst (v := (1 : Int32)) hx hb dX6_targetsOf_4 (by decide +kernel) ?_
    exact qe_i hx hb hr hlk hG h (Nat.le_refl _) (Nat.le_refl _) dX6_targetsOf_5
def wp_X6_isFor_b18 (t0 m9 : Nat) (post : Int32 → qs_S → Prop) (S : qs_S) (s0 : Int32) : Prop := (s0 = 0 ∨ s0 = 1) ∧ post s0 S
def wp_X6_isFor_b17 (t0 m9 : Nat) (post : Int32 → qs_S → Prop) (S : qs_S) : Prop := wp_X6_isFor_b18 t0 m9 post S (0 : Int32)
def wp_X6_isFor_b35 (t0 m9 : Nat) (post : Int32 → qs_S → Prop) (S : qs_S) (s0 : Int32) : Prop := (s0 = 0 ∨ s0 = 1) ∧ post s0 S
def wp_X6_isFor_b34 (t0 m9 : Nat) (post : Int32 → qs_S → Prop) (S : qs_S) : Prop := wp_X6_isFor_b35 t0 m9 post S (0 : Int32)
def wp_X6_isFor (t0 m9 : Nat) (post : Int32 → qs_S → Prop) (SA : qs_S) (x0z : Int32) (x1z : Int32) : Prop := (¬ x0z = 0 → ((x1z < (4 : Int32) → (wp_X6_isFor_b34 t0 m9 post SA)) ∧ (¬ x1z < (4 : Int32) → (((8 : Int32) ≤ x1z → (wp_X6_isFor_b34 t0 m9 post SA)) ∧ (¬ (8 : Int32) ≤ x1z → (wp_X6_isFor_b35 t0 m9 post SA (1 : Int32))))))) ∧ (x0z = 0 → ((x1z < 0 → (wp_X6_isFor_b17 t0 m9 post SA)) ∧ (¬ x1z < 0 → (((4 : Int32) ≤ x1z → (wp_X6_isFor_b17 t0 m9 post SA)) ∧ (¬ (4 : Int32) ≤ x1z → (wp_X6_isFor_b18 t0 m9 post SA (1 : Int32)))))))
set_option maxHeartbeats 4000000 in
set_option maxRecDepth 100000 in
theorem c_X6_isFor (l : Launch) (g : qs_G) (sz : Nat) (SA : qs_S) (x0z : Int32) (x1z : Int32) {post : Int32 → qs_S → Prop} (h : wp_X6_isFor g.2.2.2.2.2.2.1 g.2.2.2.2.2.2.2 post SA x0z x1z) : Met l yX6_isFor wsX6_isFor ({ frames := 0, cells := 0, slots := 0, locals := 0 } : Room) (qs_Pc g sz SA [.int x0z, .int x1z]) (qs_Qi g (qs_F g SA sz) post) 0 0 (qs_F g SA sz) := by
  refine Met.ofW (cc := cX6_isFor) (maxL := 2) (ret := (some .boolean)) (by decide +kernel) rfl ?_
  intro p e s m args below meth c s₁ B hml hv
  obtain ⟨rfl, hsz, hG⟩ := qs_Gd.start hv
  subst hsz
  have hx := B.exec
  have hb := B.bytes
  have hr := B.returns
  have hts := atoms_spec (ws := wsX6_isFor) B.pre
  have hown : s.vm.findClass RX6 = some m.cls := findClass_of_methodNamed B.named
  have hlk := B.notSynchronized
  have b18 : ∀ (S : qs_S) (s0 : Int32) (H : Heap) (locs : List Loc) (ls : Array Slot), wp_X6_isFor_b18 g.2.2.2.2.2.2.1 g.2.2.2.2.2.2.2 post S s0 → qs_Gd g (qs_F g SA s.heap.size) s S H locs → lv_has ls 2 [] → W p l e (headSpec wsX6_isFor ({ frames := 0, cells := 0, slots := 0, locals := 0 } : Room)).room s m (([.int x0z, .int x1z] : List Value)).toArray below meth c H locs 0 0 (MQ below (qs_Qi g (qs_F g SA s.heap.size) post) (([.int x0z, .int x1z] : List Value)).toArray s 0 0 (qs_F g SA s.heap.size)) (F0 m 18 ls [.int s0]) := by
    intro S s0 H locs ls h hG hl
    unfold wp_X6_isFor_b18 at h
    obtain ⟨z1, h⟩ := h
    exact qe_z hx hb hr hlk z1 hG h (Nat.le_refl _) (Nat.le_refl _) dX6_isFor_18
  have b17 : ∀ (S : qs_S) (H : Heap) (locs : List Loc) (ls : Array Slot), wp_X6_isFor_b17 g.2.2.2.2.2.2.1 g.2.2.2.2.2.2.2 post S → qs_Gd g (qs_F g SA s.heap.size) s S H locs → lv_has ls 2 [] → W p l e (headSpec wsX6_isFor ({ frames := 0, cells := 0, slots := 0, locals := 0 } : Room)).room s m (([.int x0z, .int x1z] : List Value)).toArray below meth c H locs 0 0 (MQ below (qs_Qi g (qs_F g SA s.heap.size) post) (([.int x0z, .int x1z] : List Value)).toArray s 0 0 (qs_F g SA s.heap.size)) (F0 m 17 ls []) := by
    intro S H locs ls h hG hl
    unfold wp_X6_isFor_b17 at h
    refine lv_iconst (v := (0 : Int32)) hx hb dX6_isFor_17 (by decide +kernel) ?_
    exact b18 S (0 : Int32) _ _ ls h hG (lv_sub hl [] rfl)
  have b35 : ∀ (S : qs_S) (s0 : Int32) (H : Heap) (locs : List Loc) (ls : Array Slot), wp_X6_isFor_b35 g.2.2.2.2.2.2.1 g.2.2.2.2.2.2.2 post S s0 → qs_Gd g (qs_F g SA s.heap.size) s S H locs → lv_has ls 2 [] → W p l e (headSpec wsX6_isFor ({ frames := 0, cells := 0, slots := 0, locals := 0 } : Room)).room s m (([.int x0z, .int x1z] : List Value)).toArray below meth c H locs 0 0 (MQ below (qs_Qi g (qs_F g SA s.heap.size) post) (([.int x0z, .int x1z] : List Value)).toArray s 0 0 (qs_F g SA s.heap.size)) (F0 m 35 ls [.int s0]) := by
    intro S s0 H locs ls h hG hl
    unfold wp_X6_isFor_b35 at h
    obtain ⟨z2, h⟩ := h
    exact qe_z hx hb hr hlk z2 hG h (Nat.le_refl _) (Nat.le_refl _) dX6_isFor_35
  have b34 : ∀ (S : qs_S) (H : Heap) (locs : List Loc) (ls : Array Slot), wp_X6_isFor_b34 g.2.2.2.2.2.2.1 g.2.2.2.2.2.2.2 post S → qs_Gd g (qs_F g SA s.heap.size) s S H locs → lv_has ls 2 [] → W p l e (headSpec wsX6_isFor ({ frames := 0, cells := 0, slots := 0, locals := 0 } : Room)).room s m (([.int x0z, .int x1z] : List Value)).toArray below meth c H locs 0 0 (MQ below (qs_Qi g (qs_F g SA s.heap.size) post) (([.int x0z, .int x1z] : List Value)).toArray s 0 0 (qs_F g SA s.heap.size)) (F0 m 34 ls []) := by
    intro S H locs ls h hG hl
    unfold wp_X6_isFor_b34 at h
    refine lv_iconst (v := (0 : Int32)) hx hb dX6_isFor_34 (by decide +kernel) ?_
    exact b35 S (0 : Int32) _ _ ls h hG (lv_sub hl [] rfl)
  have hl := lv_entry ([.int x0z, .int x1z]) (n := 2) (Nat.le_of_ble_eq_true rfl)
  rw [lg_entry_eq]
  generalize (lg_sl ([.int x0z, .int x1z]) ++ List.replicate (2 - (lg_sl ([.int x0z, .int x1z])).length) Slot.unset).toArray = ls at hl ⊢
  have hl : lv_has ls 2 [(0, .int x0z), (1, .int x1z)] := hl
  unfold wp_X6_isFor at h
  refine lv_iload_n hx hb dX6_isFor_0 rfl (lv_at hl 0 rfl) ?_
  refine lv_if_ne (tgt := 19) hx hb dX6_isFor_1 (by decide) (fun c3 => ?_) (fun c3 => ?_)
  · have h := h.1 c3
    refine lv_iload_n hx hb dX6_isFor_19 rfl (lv_at hl 1 rfl) ?_
    refine lv_iconst (v := (4 : Int32)) hx hb dX6_isFor_20 (by decide +kernel) ?_
    refine lv_icmp_lt (tgt := 34) hx hb dX6_isFor_21 (by decide) (fun c4 => ?_) (fun c4 => ?_)
    · have h := h.1 c4
      exact b34 SA _ _ ls h hG (lv_sub hl [] rfl)
    · have h := h.2 c4
      refine lv_iload_n hx hb dX6_isFor_24 rfl (lv_at hl 1 rfl) ?_
      refine lv_bipush (v := (8 : Int32)) hx hb dX6_isFor_25 (by decide +kernel) ?_
      refine lv_icmp_ge (tgt := 34) hx hb dX6_isFor_27 (by decide) (fun c5 => ?_) (fun c5 => ?_)
      · have h := h.1 c5
        exact b34 SA _ _ ls h hG (lv_sub hl [] rfl)
      · have h := h.2 c5
        refine lv_iconst (v := (1 : Int32)) hx hb dX6_isFor_30 (by decide +kernel) ?_
        refine lv_goto (tgt := 35) hx hb dX6_isFor_31 (by decide) ?_
        exact b35 SA (1 : Int32) _ _ ls h hG (lv_sub hl [] rfl)
  · have h := h.2 c3
    refine lv_iload_n hx hb dX6_isFor_4 rfl (lv_at hl 1 rfl) ?_
    refine lv_if_lt (tgt := 17) hx hb dX6_isFor_5 (by decide) (fun c6 => ?_) (fun c6 => ?_)
    · have h := h.1 c6
      exact b17 SA _ _ ls h hG (lv_sub hl [] rfl)
    · have h := h.2 c6
      refine lv_iload_n hx hb dX6_isFor_8 rfl (lv_at hl 1 rfl) ?_
      refine lv_iconst (v := (4 : Int32)) hx hb dX6_isFor_9 (by decide +kernel) ?_
      refine lv_icmp_ge (tgt := 17) hx hb dX6_isFor_10 (by decide) (fun c7 => ?_) (fun c7 => ?_)
      · have h := h.1 c7
        exact b17 SA _ _ ls h hG (lv_sub hl [] rfl)
      · have h := h.2 c7
        refine lv_iconst (v := (1 : Int32)) hx hb dX6_isFor_13 (by decide +kernel) ?_
        refine lv_goto (tgt := 18) hx hb dX6_isFor_14 (by decide) ?_
        exact b18 SA (1 : Int32) _ _ ls h hG (lv_sub hl [] rfl)
def wp_X6_requireOneOf_b9 (t0 m9 : Nat) (mc ms : Nat) (post : qs_S → Prop) (px : String → qs_S → Prop) (k n : Nat) (S : qs_S) : Prop := (k + 1 ≤ mc ∧ n + 6 ≤ ms) ∧ px "java/lang/IndexOutOfBoundsException" S
def wp_X6_requireOneOf (t0 m9 : Nat) (mc ms : Nat) (post : qs_S → Prop) (px : String → qs_S → Prop) (SA : qs_S) (x0z : Int32) (x1z : Int32) : Prop := (x0z < 0 → (wp_X6_requireOneOf_b9 t0 m9 mc ms post px 0 0 SA)) ∧ (¬ x0z < 0 → ((x0z < x1z → (post SA)) ∧ (¬ x0z < x1z → (wp_X6_requireOneOf_b9 t0 m9 mc ms post px 0 0 SA))))
set_option maxHeartbeats 4000000 in
set_option maxRecDepth 100000 in
theorem c_X6_requireOneOf (l : Launch) (hl9 : l.stackTraces = false) (g : qs_G) (sz : Nat) (SA : qs_S) (x0z : Int32) (x1z : Int32) {mc ms : Nat} {post : qs_S → Prop} {px : String → qs_S → Prop} (h : wp_X6_requireOneOf g.2.2.2.2.2.2.1 g.2.2.2.2.2.2.2 mc ms post px SA x0z x1z) : vx_Met l yX6_requireOneOf wsX6_requireOneOf ({ frames := 6, cells := mc, slots := ms, locals := 90 } : Room) (qs_Pc g sz SA [.int x0z, .int x1z]) (qs_Qv g (qs_F g SA sz) post) (qs_X g (qs_F g SA sz) px) mc ms (qs_F g SA sz) := by
  refine vx_ofW (cc := cX6_requireOneOf) (maxL := 2) (ret := none) (by decide +kernel) rfl ?_
  intro p e s m args below meth c s₁ B hml hnt hv
  obtain ⟨rfl, hsz, hG⟩ := qs_Gd.start hv
  subst hsz
  have hx := B.exec
  have hb := B.bytes
  have hr := B.returns
  have hts := atoms_spec (ws := wsX6_requireOneOf) B.pre
  have hown : s.vm.findClass RX6 = some m.cls := findClass_of_methodNamed B.named
  have hlk := B.notSynchronized
  have hkc : 0 ≤ mc := Nat.zero_le _
  have hks : 0 ≤ ms := Nat.zero_le _
  have hmR : mc ≤ (headSpec wsX6_requireOneOf ({ frames := 6, cells := mc, slots := ms, locals := 90 } : Room)).room.cells := Nat.le_refl _
  have hsR : ms ≤ (headSpec wsX6_requireOneOf ({ frames := 6, cells := mc, slots := ms, locals := 90 } : Room)).room.slots := Nat.le_refl _
  have b9 : ∀ (S : qs_S) (H : Heap) (locs : List Loc) (k n : Nat) (ls : Array Slot), k ≤ mc → n ≤ ms → wp_X6_requireOneOf_b9 g.2.2.2.2.2.2.1 g.2.2.2.2.2.2.2 mc ms post px k n S → qs_Gd g (qs_F g SA s.heap.size) s S H locs → lv_has ls 2 [] → W p l e (headSpec wsX6_requireOneOf ({ frames := 6, cells := mc, slots := ms, locals := 90 } : Room)).room s m (([.int x0z, .int x1z] : List Value)).toArray below meth c H locs k n (vx_MQ below (qs_Qv g (qs_F g SA s.heap.size) post) (qs_X g (qs_F g SA s.heap.size) px) (([.int x0z, .int x1z] : List Value)).toArray s mc ms (qs_F g SA s.heap.size)) (F0 m 9 ls []) := by
    intro S H locs k n ls hkc hks h hG hl
    unfold wp_X6_requireOneOf_b9 at h
    obtain ⟨⟨hs1c, hs1s⟩, h⟩ := h
    exact qx_throwW (ik := 127) (is := 340) (ic := 131) (cls := "java/lang/IndexOutOfBoundsException") hx hb hl9 hts hown (by decide +kernel) (by decide +kernel) (List.mem_of_getElem? (i := 2) rfl) (hts (.classLink RX6 127 "java/lang/IndexOutOfBoundsException") (List.mem_of_getElem? (i := 1) rfl)) (hts (.initialized "java/lang/IndexOutOfBoundsException") (List.mem_of_getElem? (i := 2) rfl)) (fun w h => List.mem_cons_of_mem _ (List.mem_append_right _ (h))) qt_bd_IOB qt_gd_IOB hG (hl.1.trans hml.symm) dX6_requireOneOf_9 dX6_requireOneOf_12 dX6_requireOneOf_13 dX6_requireOneOf_16 dX6_requireOneOf_19 hnt (Nat.le_of_ble_eq_true rfl) (Nat.le_of_ble_eq_true rfl) hmR hsR hlk h hs1c hs1s
  have hl := lv_entry ([.int x0z, .int x1z]) (n := 2) (Nat.le_of_ble_eq_true rfl)
  rw [lg_entry_eq]
  generalize (lg_sl ([.int x0z, .int x1z]) ++ List.replicate (2 - (lg_sl ([.int x0z, .int x1z])).length) Slot.unset).toArray = ls at hl ⊢
  have hl : lv_has ls 2 [(0, .int x0z), (1, .int x1z)] := hl
  unfold wp_X6_requireOneOf at h
  refine lv_iload_n hx hb dX6_requireOneOf_0 rfl (lv_at hl 0 rfl) ?_
  refine lv_if_lt (tgt := 9) hx hb dX6_requireOneOf_1 (by decide) (fun c2 => ?_) (fun c2 => ?_)
  · have h := h.1 c2
    exact b9 SA _ _ 0 0 ls hkc hks h hG (lv_sub hl [] rfl)
  · have h := h.2 c2
    refine lv_iload_n hx hb dX6_requireOneOf_4 rfl (lv_at hl 0 rfl) ?_
    refine lv_iload_n hx hb dX6_requireOneOf_5 rfl (lv_at hl 1 rfl) ?_
    refine lv_icmp_lt (tgt := 20) hx hb dX6_requireOneOf_6 (by decide) (fun c3 => ?_) (fun c3 => ?_)
    · have h := h.1 c3
      refine vx_ret ?_
      exact qe_v hx hb hr hlk hG h hkc hks dX6_requireOneOf_20
    · have h := h.2 c3
      exact b9 SA _ _ 0 0 ls hkc hks h hG (lv_sub hl [] rfl)
def wp_X6_elementOf (t0 m9 : Nat) (mc ms : Nat) (post : Option Nat → qs_S → Prop) (px : String → qs_S → Prop) (SA : qs_S) (a0z : Nat) (x1z : Int32) : Prop := (a0z ∈ qs_L SA ∧ qs_K SA a0z = 0) ∧ (wp_Jx4a65c_size_8abf5 t0 m9 (fun (v6 : Int32) (S5 : qs_S) => ∃ mck7 msk7 : Nat, (0 + mck7 ≤ mc ∧ 0 + msk7 ≤ ms) ∧ (wp_X6_requireOneOf t0 m9 mck7 msk7 (fun (S9 : qs_S) => (a0z ∈ qs_L S9 ∧ qs_K S9 a0z = 0) ∧ (wp_Jx4a65c_get_915e3 t0 m9 (fun (o15 : Option Nat) (S14 : qs_S) => ∃ q16 : Nat, o15 = some q16 ∧ ((q16 ∈ qs_L S14 ∧ qs_K S14 q16 = 3) ∧ (post (some q16) S14))) S9 a0z x1z)) px S5 x1z v6)) SA a0z)
set_option maxHeartbeats 4000000 in
set_option maxRecDepth 100000 in
theorem c_X6_elementOf (l : Launch) (hl9 : l.stackTraces = false) (g : qs_G) (sz : Nat) (SA : qs_S) (a0z : Nat) (x1z : Int32) {mc ms : Nat} {post : Option Nat → qs_S → Prop} {px : String → qs_S → Prop} (h : wp_X6_elementOf g.2.2.2.2.2.2.1 g.2.2.2.2.2.2.2 mc ms post px SA a0z x1z) : vx_Met l yX6_elementOf wsX6_elementOf ({ frames := 7, cells := mc, slots := ms, locals := 111 } : Room) (qs_Pc g sz SA [.ref a0z, .int x1z]) (qs_Qq g (qs_F g SA sz) post) (qs_X g (qs_F g SA sz) px) mc ms (qs_F g SA sz) := by
  refine vx_ofW (cc := cX6_elementOf) (maxL := 2) (ret := (some (.object "QuayMesh$Message"))) (by decide +kernel) rfl ?_
  intro p e s m args below meth c s₁ B hml hnt hv
  obtain ⟨rfl, hsz, hG⟩ := qs_Gd.start hv
  subst hsz
  have hx := B.exec
  have hb := B.bytes
  have hr := B.returns
  have hts := atoms_spec (ws := wsX6_elementOf) B.pre
  have hown : s.vm.findClass RX6 = some m.cls := findClass_of_methodNamed B.named
  have hlk := B.notSynchronized
  have in0 : ∀ w ∈ u_ws RJx4a65c TJx4a65c 3, w ∈ wsX6_elementOf := fun w h => List.mem_cons_of_mem _ (List.mem_append_left _ (List.mem_append_right _ (h)))
  have hkc : 0 ≤ mc := Nat.zero_le _
  have hks : 0 ≤ ms := Nat.zero_le _
  have hmR : mc ≤ (headSpec wsX6_elementOf ({ frames := 7, cells := mc, slots := ms, locals := 111 } : Room)).room.cells := Nat.le_refl _
  have hsR : ms ≤ (headSpec wsX6_elementOf ({ frames := 7, cells := mc, slots := ms, locals := 111 } : Room)).room.slots := Nat.le_refl _
  have hl := lv_entry ([.ref a0z, .int x1z]) (n := 2) (Nat.le_of_ble_eq_true rfl)
  rw [lg_entry_eq]
  generalize (lg_sl ([.ref a0z, .int x1z]) ++ List.replicate (2 - (lg_sl ([.ref a0z, .int x1z])).length) Slot.unset).toArray = ls at hl ⊢
  have hl : lv_has ls 2 [(0, .ref a0z), (1, .int x1z)] := hl
  unfold wp_X6_elementOf at h
  refine lv_iload_n hx hb dX6_elementOf_0 rfl (lv_at hl 1 rfl) ?_
  refine lv_aload_n hx hb dX6_elementOf_1 rfl (lv_at hl 0 rfl) ?_
  obtain ⟨⟨hL3, fK4⟩, h⟩ := h
  refine qc_i hG (va_runV (As := []) (rest := [.int x1z]) ⟨hx, hb, hml, hown, hts⟩ (c_Jx4a65c_size_8abf5 l g _ SA a0z h) (cwV 0 hts gX6_elementOf_Jx4a65c_size_8abf5 rfl rfl rfl (by decide +kernel) ⟨(Nat.le_of_ble_eq_true rfl), (Nat.le_of_ble_eq_true rfl)⟩) ⟨qs_Pc.blind _ _ _ _, hG.recv hL3 fK4 (by decide) rfl, hG.pre _⟩ rfl rfl hl.1 rfl (lv_room (Nat.le_of_ble_eq_true rfl)) dX6_elementOf_2 ⟨Nat.le_trans hkc hmR, Nat.le_trans hks hsR⟩) (fun v6 S5 H locs h hG => ?_)
  obtain ⟨mck7, msk7, ⟨hs8c, hs8s⟩, h⟩ := h
  refine qx_v hG (vx_runS (As := [.int x1z, .int v6]) (rest := []) ⟨hx, hb, hml, hown, hts⟩ (c_X6_requireOneOf l hl9 g _ S5 x1z v6 h) (va_cwS 2 hts gX6_elementOf_X6_requireOneOf rfl rfl rfl (by decide +kernel) ⟨(Nat.le_of_ble_eq_true rfl), (Nat.le_of_ble_eq_true rfl)⟩) ⟨qs_Pc.blind _ _ _ _, hG.pre _⟩ rfl rfl hl.1 rfl (lv_room (Nat.le_of_ble_eq_true rfl)) dX6_elementOf_5 ⟨Nat.le_trans hs8c hmR, Nat.le_trans hs8s hsR⟩) (fun E S1 H locs ce q9 hp hG h1 h2 h3 => qx_out hnt hlk hG hp h1 h2 h3 hs8c hs8s) (fun S9 H locs h hG => ?_)
  have hkc := hs8c
  have hks := hs8s
  refine lv_aload_n hx hb dX6_elementOf_8 rfl (lv_at hl 0 rfl) ?_
  refine lv_iload_n hx hb dX6_elementOf_9 rfl (lv_at hl 1 rfl) ?_
  obtain ⟨⟨hL12, fK13⟩, h⟩ := h
  refine qc_q hG (va_runV (As := [.int x1z]) (rest := []) ⟨hx, hb, hml, hown, hts⟩ (c_Jx4a65c_get_915e3 l g _ S9 a0z x1z h) (cwV 1 hts gX6_elementOf_Jx4a65c_get_915e3 rfl rfl rfl (by decide +kernel) ⟨(Nat.le_of_ble_eq_true rfl), (Nat.le_of_ble_eq_true rfl)⟩) ⟨qs_Pc.blind _ _ _ _, hG.recv hL12 fK13 (by decide) rfl, hG.pre _⟩ rfl rfl hl.1 rfl (lv_room (Nat.le_of_ble_eq_true rfl)) dX6_elementOf_10 ⟨Nat.le_trans hkc hmR, Nat.le_trans hks hsR⟩) (fun o15 S14 H locs h hG => ?_)
  obtain ⟨q16, rfl, h⟩ := h
  obtain ⟨⟨hL17, fK18⟩, h⟩ := h
  refine qr_cast (N := 7) hx hb hG hL17 fK18 (by decide) rfl hown (hts (.classLink RX6 141 "QuayMesh$Message") (List.mem_of_getElem? (i := 1) rfl)) dX6_elementOf_13 ?_
  refine vx_ret ?_
  exact qe_q (o := (some q16)) hx hb hr hlk rfl (Or.inl ⟨_, rfl⟩) hG h hkc hks dX6_elementOf_16
def wp_X6_shipNumbered (t0 m9 : Nat) (mc ms : Nat) (post : Option Nat → qs_S → Prop) (px : String → qs_S → Prop) (SA : qs_S) (a0z : Nat) (x1z : Int32) : Prop := (a0z ∈ qs_L SA ∧ qs_K SA a0z = 6) ∧ (∃ q3 : Nat, qs_R SA 0 a0z = some q3 ∧ ((q3 ∈ qs_L SA ∧ qs_K SA q3 = 0) ∧ (wp_Jx4a65c_size_8abf5 t0 m9 (fun (v9 : Int32) (S8 : qs_S) => ∃ mck10 msk10 : Nat, (0 + mck10 ≤ mc ∧ 0 + msk10 ≤ ms) ∧ (wp_X6_requireOneOf t0 m9 mck10 msk10 (fun (S12 : qs_S) => (a0z ∈ qs_L S12 ∧ qs_K S12 a0z = 6) ∧ (∃ q15 : Nat, qs_R S12 0 a0z = some q15 ∧ ((q15 ∈ qs_L S12 ∧ qs_K S12 q15 = 0) ∧ (wp_Jx4a65c_get_915e3 t0 m9 (fun (o21 : Option Nat) (S20 : qs_S) => ∃ q22 : Nat, o21 = some q22 ∧ ((q22 ∈ qs_L S20 ∧ qs_K S20 q22 = 4) ∧ (∀ v25 : Int32, v25 = qs_I S20 2 q22 → (v25 = 0 → (post (some q22) S20)) ∧ (¬ v25 = 0 → ((0 + mck10 + 1 ≤ mc ∧ 0 + msk10 + 6 ≤ ms) ∧ px "java/lang/IndexOutOfBoundsException" S20))))) S12 q15 x1z)))) px S8 x1z v9)) SA q3)))
set_option maxHeartbeats 4000000 in
set_option maxRecDepth 100000 in
theorem c_X6_shipNumbered (l : Launch) (hl9 : l.stackTraces = false) (g : qs_G) (sz : Nat) (SA : qs_S) (a0z : Nat) (x1z : Int32) {mc ms : Nat} {post : Option Nat → qs_S → Prop} {px : String → qs_S → Prop} (h : wp_X6_shipNumbered g.2.2.2.2.2.2.1 g.2.2.2.2.2.2.2 mc ms post px SA a0z x1z) : vx_Met l yX6_shipNumbered wsX6_shipNumbered ({ frames := 7, cells := mc, slots := ms, locals := 111 } : Room) (qs_Pc g sz SA [.ref a0z, .int x1z]) (qs_Qq g (qs_F g SA sz) post) (qs_X g (qs_F g SA sz) px) mc ms (qs_F g SA sz) := by
  refine vx_ofW (cc := cX6_shipNumbered) (maxL := 3) (ret := (some (.object "QuayMesh$Ship"))) (by decide +kernel) rfl ?_
  intro p e s m args below meth c s₁ B hml hnt hv
  obtain ⟨rfl, hsz, hG⟩ := qs_Gd.start hv
  subst hsz
  have hx := B.exec
  have hb := B.bytes
  have hr := B.returns
  have hts := atoms_spec (ws := wsX6_shipNumbered) B.pre
  have hown : s.vm.findClass RX6 = some m.cls := findClass_of_methodNamed B.named
  have hlk := B.notSynchronized
  have in0 : ∀ w ∈ u_ws RJx4a65c TJx4a65c 3, w ∈ wsX6_shipNumbered := fun w h => List.mem_cons_of_mem _ (List.mem_append_left _ (List.mem_append_right _ (h)))
  have in4 : ∀ w ∈ u_ws RX3 TX3 3, w ∈ wsX6_shipNumbered := fun w h => List.mem_cons_of_mem _ (List.mem_append_left _ (List.mem_append_left _ (List.mem_append_right _ (h))))
  have in6 : ∀ w ∈ u_ws RX6 TX6 8, w ∈ wsX6_shipNumbered := fun w h => List.mem_cons_of_mem _ (List.mem_append_left _ (List.mem_append_left _ (List.mem_append_left _ (List.mem_append_right _ (h)))))
  have hkc : 0 ≤ mc := Nat.zero_le _
  have hks : 0 ≤ ms := Nat.zero_le _
  have hmR : mc ≤ (headSpec wsX6_shipNumbered ({ frames := 7, cells := mc, slots := ms, locals := 111 } : Room)).room.cells := Nat.le_refl _
  have hsR : ms ≤ (headSpec wsX6_shipNumbered ({ frames := 7, cells := mc, slots := ms, locals := 111 } : Room)).room.slots := Nat.le_refl _
  have hl := lv_entry ([.ref a0z, .int x1z]) (n := 3) (Nat.le_of_ble_eq_true rfl)
  rw [lg_entry_eq]
  generalize (lg_sl ([.ref a0z, .int x1z]) ++ List.replicate (3 - (lg_sl ([.ref a0z, .int x1z])).length) Slot.unset).toArray = ls at hl ⊢
  have hl : lv_has ls 3 [(0, .ref a0z), (1, .int x1z)] := hl
  unfold wp_X6_shipNumbered at h
  refine lv_iload_n hx hb dX6_shipNumbered_0 rfl (lv_at hl 1 rfl) ?_
  refine lv_aload_n hx hb dX6_shipNumbered_1 rfl (lv_at hl 0 rfl) ?_
  obtain ⟨⟨hL1, fK2⟩, h⟩ := h
  obtain ⟨q3, eq3, h⟩ := h
  refine qr_get (C := RX6) (T := TX6) (N := 8) (ci := 6) hx hb hts in6 hown hG hL1 fK2 (by decide) rfl 0 (by decide) rfl (hts (.fieldLink RX6 12 "QuayMesh" "allShips" "Ljava/util/ArrayList;") (List.mem_of_getElem? (i := 3) rfl)) (fun _ h9 => h9) (v := .ref q3) (qs_rf eq3) dX6_shipNumbered_2 ?_
  obtain ⟨⟨hL6, fK7⟩, h⟩ := h
  refine qc_i hG (va_runV (As := []) (rest := [.int x1z]) ⟨hx, hb, hml, hown, hts⟩ (c_Jx4a65c_size_8abf5 l g _ SA q3 h) (cwV 0 hts gX6_shipNumbered_Jx4a65c_size_8abf5 rfl rfl rfl (by decide +kernel) ⟨(Nat.le_of_ble_eq_true rfl), (Nat.le_of_ble_eq_true rfl)⟩) ⟨qs_Pc.blind _ _ _ _, hG.recv hL6 fK7 (by decide) rfl, hG.pre _⟩ rfl rfl hl.1 rfl (lv_room (Nat.le_of_ble_eq_true rfl)) dX6_shipNumbered_5 ⟨Nat.le_trans hkc hmR, Nat.le_trans hks hsR⟩) (fun v9 S8 H locs h hG => ?_)
  obtain ⟨mck10, msk10, ⟨hs11c, hs11s⟩, h⟩ := h
  refine qx_v hG (vx_runS (As := [.int x1z, .int v9]) (rest := []) ⟨hx, hb, hml, hown, hts⟩ (c_X6_requireOneOf l hl9 g _ S8 x1z v9 h) (va_cwS 2 hts gX6_shipNumbered_X6_requireOneOf rfl rfl rfl (by decide +kernel) ⟨(Nat.le_of_ble_eq_true rfl), (Nat.le_of_ble_eq_true rfl)⟩) ⟨qs_Pc.blind _ _ _ _, hG.pre _⟩ rfl rfl hl.1 rfl (lv_room (Nat.le_of_ble_eq_true rfl)) dX6_shipNumbered_8 ⟨Nat.le_trans hs11c hmR, Nat.le_trans hs11s hsR⟩) (fun E S1 H locs ce q9 hp hG h1 h2 h3 => qx_out hnt hlk hG hp h1 h2 h3 hs11c hs11s) (fun S12 H locs h hG => ?_)
  have hkc := hs11c
  have hks := hs11s
  refine lv_aload_n hx hb dX6_shipNumbered_11 rfl (lv_at hl 0 rfl) ?_
  obtain ⟨⟨hL13, fK14⟩, h⟩ := h
  obtain ⟨q15, eq15, h⟩ := h
  refine qr_get (C := RX6) (T := TX6) (N := 8) (ci := 6) hx hb hts in6 hown hG hL13 fK14 (by decide) rfl 0 (by decide) rfl (hts (.fieldLink RX6 12 "QuayMesh" "allShips" "Ljava/util/ArrayList;") (List.mem_of_getElem? (i := 3) rfl)) (fun _ h9 => h9) (v := .ref q15) (qs_rf eq15) dX6_shipNumbered_12 ?_
  refine lv_iload_n hx hb dX6_shipNumbered_15 rfl (lv_at hl 1 rfl) ?_
  obtain ⟨⟨hL18, fK19⟩, h⟩ := h
  refine qc_q hG (va_runV (As := [.int x1z]) (rest := []) ⟨hx, hb, hml, hown, hts⟩ (c_Jx4a65c_get_915e3 l g _ S12 q15 x1z h) (cwV 1 hts gX6_shipNumbered_Jx4a65c_get_915e3 rfl rfl rfl (by decide +kernel) ⟨(Nat.le_of_ble_eq_true rfl), (Nat.le_of_ble_eq_true rfl)⟩) ⟨qs_Pc.blind _ _ _ _, hG.recv hL18 fK19 (by decide) rfl, hG.pre _⟩ rfl rfl hl.1 rfl (lv_room (Nat.le_of_ble_eq_true rfl)) dX6_shipNumbered_16 ⟨Nat.le_trans hkc hmR, Nat.le_trans hks hsR⟩) (fun o21 S20 H locs h hG => ?_)
  obtain ⟨q22, rfl, h⟩ := h
  obtain ⟨⟨hL23, fK24⟩, h⟩ := h
  refine qr_cast (N := 3) hx hb hG hL23 fK24 (by decide) rfl hown (hts (.classLink RX6 75 "QuayMesh$Ship") (List.mem_of_getElem? (i := 4) rfl)) dX6_shipNumbered_19 ?_
  refine lv_astore_n (lv' := [(2, .ref q22), (0, .ref a0z), (1, .int x1z)]) hx hb dX6_shipNumbered_22 rfl hl (by decide) rfl (fun ls hl => ?_)
  refine lv_aload_n hx hb dX6_shipNumbered_23 rfl (lv_at hl 0 rfl) ?_
  refine qr_get (C := RX3) (T := TX3) (N := 3) (ci := 4) hx hb hts in4 hown hG hL23 fK24 (by decide) rfl 2 (by decide) rfl (hts (.fieldLink RX6 110 "QuayMesh$Ship" "hasLeft" "Z") (List.mem_of_getElem? (i := 5) rfl)) (fun _ h9 => h9) (v := .int (qs_I S20 2 q22)) rfl dX6_shipNumbered_24 ?_
  refine lv_topi (fun v25 ev25 => ?_)
  have h := h v25 ev25
  refine lv_if_eq (tgt := 41) hx hb dX6_shipNumbered_27 (by decide) (fun c26 => ?_) (fun c26 => ?_)
  · have h := h.1 c26
    refine lv_aload_n hx hb dX6_shipNumbered_41 rfl (lv_at hl 0 rfl) ?_
    refine vx_ret ?_
    exact qe_q (o := (some q22)) hx hb hr hlk rfl (Or.inl ⟨_, rfl⟩) hG h hkc hks dX6_shipNumbered_42
  · have h := h.2 c26
    obtain ⟨⟨hs27c, hs27s⟩, h⟩ := h
    exact qx_throwW (ik := 127) (is := 342) (ic := 131) (cls := "java/lang/IndexOutOfBoundsException") hx hb hl9 hts hown (by decide +kernel) (by decide +kernel) (List.mem_of_getElem? (i := 12) rfl) (hts (.classLink RX6 127 "java/lang/IndexOutOfBoundsException") (List.mem_of_getElem? (i := 1) rfl)) (hts (.initialized "java/lang/IndexOutOfBoundsException") (List.mem_of_getElem? (i := 2) rfl)) (fun w h => List.mem_cons_of_mem _ (List.mem_append_right _ (h))) qt_bd_IOB qt_gd_IOB hG (hl.1.trans hml.symm) dX6_shipNumbered_30 dX6_shipNumbered_33 dX6_shipNumbered_34 dX6_shipNumbered_37 dX6_shipNumbered_40 hnt (Nat.le_of_ble_eq_true rfl) (Nat.le_of_ble_eq_true rfl) hmR hsR hlk h hs27c hs27s
def wp_X6_boxNumbered (t0 m9 : Nat) (mc ms : Nat) (post : Option Nat → qs_S → Prop) (px : String → qs_S → Prop) (SA : qs_S) (a0z : Nat) (x1z : Int32) : Prop := (a0z ∈ qs_L SA ∧ qs_K SA a0z = 6) ∧ (∃ q3 : Nat, qs_R SA 1 a0z = some q3 ∧ ((q3 ∈ qs_L SA ∧ qs_K SA q3 = 0) ∧ (wp_Jx4a65c_size_8abf5 t0 m9 (fun (v9 : Int32) (S8 : qs_S) => ∃ mck10 msk10 : Nat, (0 + mck10 ≤ mc ∧ 0 + msk10 ≤ ms) ∧ (wp_X6_requireOneOf t0 m9 mck10 msk10 (fun (S12 : qs_S) => (a0z ∈ qs_L S12 ∧ qs_K S12 a0z = 6) ∧ (∃ q15 : Nat, qs_R S12 1 a0z = some q15 ∧ ((q15 ∈ qs_L S12 ∧ qs_K S12 q15 = 0) ∧ (wp_Jx4a65c_get_915e3 t0 m9 (fun (o21 : Option Nat) (S20 : qs_S) => ∃ q22 : Nat, o21 = some q22 ∧ ((q22 ∈ qs_L S20 ∧ qs_K S20 q22 = 1) ∧ (post (some q22) S20))) S12 q15 x1z)))) px S8 x1z v9)) SA q3)))
set_option maxHeartbeats 4000000 in
set_option maxRecDepth 100000 in
theorem c_X6_boxNumbered (l : Launch) (hl9 : l.stackTraces = false) (g : qs_G) (sz : Nat) (SA : qs_S) (a0z : Nat) (x1z : Int32) {mc ms : Nat} {post : Option Nat → qs_S → Prop} {px : String → qs_S → Prop} (h : wp_X6_boxNumbered g.2.2.2.2.2.2.1 g.2.2.2.2.2.2.2 mc ms post px SA a0z x1z) : vx_Met l yX6_boxNumbered wsX6_boxNumbered ({ frames := 7, cells := mc, slots := ms, locals := 111 } : Room) (qs_Pc g sz SA [.ref a0z, .int x1z]) (qs_Qq g (qs_F g SA sz) post) (qs_X g (qs_F g SA sz) px) mc ms (qs_F g SA sz) := by
  refine vx_ofW (cc := cX6_boxNumbered) (maxL := 2) (ret := (some (.object "QuayMesh$Box"))) (by decide +kernel) rfl ?_
  intro p e s m args below meth c s₁ B hml hnt hv
  obtain ⟨rfl, hsz, hG⟩ := qs_Gd.start hv
  subst hsz
  have hx := B.exec
  have hb := B.bytes
  have hr := B.returns
  have hts := atoms_spec (ws := wsX6_boxNumbered) B.pre
  have hown : s.vm.findClass RX6 = some m.cls := findClass_of_methodNamed B.named
  have hlk := B.notSynchronized
  have in0 : ∀ w ∈ u_ws RJx4a65c TJx4a65c 3, w ∈ wsX6_boxNumbered := fun w h => List.mem_cons_of_mem _ (List.mem_append_left _ (List.mem_append_right _ (h)))
  have in6 : ∀ w ∈ u_ws RX6 TX6 8, w ∈ wsX6_boxNumbered := fun w h => List.mem_cons_of_mem _ (List.mem_append_left _ (List.mem_append_left _ (List.mem_append_right _ (h))))
  have hkc : 0 ≤ mc := Nat.zero_le _
  have hks : 0 ≤ ms := Nat.zero_le _
  have hmR : mc ≤ (headSpec wsX6_boxNumbered ({ frames := 7, cells := mc, slots := ms, locals := 111 } : Room)).room.cells := Nat.le_refl _
  have hsR : ms ≤ (headSpec wsX6_boxNumbered ({ frames := 7, cells := mc, slots := ms, locals := 111 } : Room)).room.slots := Nat.le_refl _
  have hl := lv_entry ([.ref a0z, .int x1z]) (n := 2) (Nat.le_of_ble_eq_true rfl)
  rw [lg_entry_eq]
  generalize (lg_sl ([.ref a0z, .int x1z]) ++ List.replicate (2 - (lg_sl ([.ref a0z, .int x1z])).length) Slot.unset).toArray = ls at hl ⊢
  have hl : lv_has ls 2 [(0, .ref a0z), (1, .int x1z)] := hl
  unfold wp_X6_boxNumbered at h
  refine lv_iload_n hx hb dX6_boxNumbered_0 rfl (lv_at hl 1 rfl) ?_
  refine lv_aload_n hx hb dX6_boxNumbered_1 rfl (lv_at hl 0 rfl) ?_
  obtain ⟨⟨hL1, fK2⟩, h⟩ := h
  obtain ⟨q3, eq3, h⟩ := h
  refine qr_get (C := RX6) (T := TX6) (N := 8) (ci := 6) hx hb hts in6 hown hG hL1 fK2 (by decide) rfl 1 (by decide) rfl (hts (.fieldLink RX6 16 "QuayMesh" "allBoxes" "Ljava/util/ArrayList;") (List.mem_of_getElem? (i := 1) rfl)) (fun _ h9 => h9) (v := .ref q3) (qs_rf eq3) dX6_boxNumbered_2 ?_
  obtain ⟨⟨hL6, fK7⟩, h⟩ := h
  refine qc_i hG (va_runV (As := []) (rest := [.int x1z]) ⟨hx, hb, hml, hown, hts⟩ (c_Jx4a65c_size_8abf5 l g _ SA q3 h) (cwV 0 hts gX6_boxNumbered_Jx4a65c_size_8abf5 rfl rfl rfl (by decide +kernel) ⟨(Nat.le_of_ble_eq_true rfl), (Nat.le_of_ble_eq_true rfl)⟩) ⟨qs_Pc.blind _ _ _ _, hG.recv hL6 fK7 (by decide) rfl, hG.pre _⟩ rfl rfl hl.1 rfl (lv_room (Nat.le_of_ble_eq_true rfl)) dX6_boxNumbered_5 ⟨Nat.le_trans hkc hmR, Nat.le_trans hks hsR⟩) (fun v9 S8 H locs h hG => ?_)
  obtain ⟨mck10, msk10, ⟨hs11c, hs11s⟩, h⟩ := h
  refine qx_v hG (vx_runS (As := [.int x1z, .int v9]) (rest := []) ⟨hx, hb, hml, hown, hts⟩ (c_X6_requireOneOf l hl9 g _ S8 x1z v9 h) (va_cwS 2 hts gX6_boxNumbered_X6_requireOneOf rfl rfl rfl (by decide +kernel) ⟨(Nat.le_of_ble_eq_true rfl), (Nat.le_of_ble_eq_true rfl)⟩) ⟨qs_Pc.blind _ _ _ _, hG.pre _⟩ rfl rfl hl.1 rfl (lv_room (Nat.le_of_ble_eq_true rfl)) dX6_boxNumbered_8 ⟨Nat.le_trans hs11c hmR, Nat.le_trans hs11s hsR⟩) (fun E S1 H locs ce q9 hp hG h1 h2 h3 => qx_out hnt hlk hG hp h1 h2 h3 hs11c hs11s) (fun S12 H locs h hG => ?_)
  have hkc := hs11c
  have hks := hs11s
  refine lv_aload_n hx hb dX6_boxNumbered_11 rfl (lv_at hl 0 rfl) ?_
  obtain ⟨⟨hL13, fK14⟩, h⟩ := h
  obtain ⟨q15, eq15, h⟩ := h
  refine qr_get (C := RX6) (T := TX6) (N := 8) (ci := 6) hx hb hts in6 hown hG hL13 fK14 (by decide) rfl 1 (by decide) rfl (hts (.fieldLink RX6 16 "QuayMesh" "allBoxes" "Ljava/util/ArrayList;") (List.mem_of_getElem? (i := 1) rfl)) (fun _ h9 => h9) (v := .ref q15) (qs_rf eq15) dX6_boxNumbered_12 ?_
  refine lv_iload_n hx hb dX6_boxNumbered_15 rfl (lv_at hl 1 rfl) ?_
  obtain ⟨⟨hL18, fK19⟩, h⟩ := h
  refine qc_q hG (va_runV (As := [.int x1z]) (rest := []) ⟨hx, hb, hml, hown, hts⟩ (c_Jx4a65c_get_915e3 l g _ S12 q15 x1z h) (cwV 1 hts gX6_boxNumbered_Jx4a65c_get_915e3 rfl rfl rfl (by decide +kernel) ⟨(Nat.le_of_ble_eq_true rfl), (Nat.le_of_ble_eq_true rfl)⟩) ⟨qs_Pc.blind _ _ _ _, hG.recv hL18 fK19 (by decide) rfl, hG.pre _⟩ rfl rfl hl.1 rfl (lv_room (Nat.le_of_ble_eq_true rfl)) dX6_boxNumbered_16 ⟨Nat.le_trans hkc hmR, Nat.le_trans hks hsR⟩) (fun o21 S20 H locs h hG => ?_)
  obtain ⟨q22, rfl, h⟩ := h
  obtain ⟨⟨hL23, fK24⟩, h⟩ := h
  refine qr_cast (N := 8) hx hb hG hL23 fK24 (by decide) rfl hown (hts (.classLink RX6 92 "QuayMesh$Box") (List.mem_of_getElem? (i := 2) rfl)) dX6_boxNumbered_19 ?_
  refine vx_ret ?_
  exact qe_q (o := (some q22)) hx hb hr hlk rfl (Or.inl ⟨_, rfl⟩) hG h hkc hks dX6_boxNumbered_22
def wp_X6_craneNumbered (t0 m9 : Nat) (mc ms : Nat) (post : Option Nat → qs_S → Prop) (px : String → qs_S → Prop) (SA : qs_S) (a0z : Nat) (x1z : Int32) : Prop := (a0z ∈ qs_L SA ∧ qs_K SA a0z = 6) ∧ (∃ q3 : Nat, qs_R SA 4 a0z = some q3 ∧ ((q3 ∈ qs_L SA ∧ qs_K SA q3 = 0) ∧ (wp_Jx4a65c_size_8abf5 t0 m9 (fun (v9 : Int32) (S8 : qs_S) => ∃ mck10 msk10 : Nat, (0 + mck10 ≤ mc ∧ 0 + msk10 ≤ ms) ∧ (wp_X6_requireOneOf t0 m9 mck10 msk10 (fun (S12 : qs_S) => (a0z ∈ qs_L S12 ∧ qs_K S12 a0z = 6) ∧ (∃ q15 : Nat, qs_R S12 4 a0z = some q15 ∧ ((q15 ∈ qs_L S12 ∧ qs_K S12 q15 = 0) ∧ (wp_Jx4a65c_get_915e3 t0 m9 (fun (o21 : Option Nat) (S20 : qs_S) => ∃ q22 : Nat, o21 = some q22 ∧ ((q22 ∈ qs_L S20 ∧ qs_K S20 q22 = 2) ∧ (post (some q22) S20))) S12 q15 x1z)))) px S8 x1z v9)) SA q3)))
set_option maxHeartbeats 4000000 in
set_option maxRecDepth 100000 in
theorem c_X6_craneNumbered (l : Launch) (hl9 : l.stackTraces = false) (g : qs_G) (sz : Nat) (SA : qs_S) (a0z : Nat) (x1z : Int32) {mc ms : Nat} {post : Option Nat → qs_S → Prop} {px : String → qs_S → Prop} (h : wp_X6_craneNumbered g.2.2.2.2.2.2.1 g.2.2.2.2.2.2.2 mc ms post px SA a0z x1z) : vx_Met l yX6_craneNumbered wsX6_craneNumbered ({ frames := 7, cells := mc, slots := ms, locals := 111 } : Room) (qs_Pc g sz SA [.ref a0z, .int x1z]) (qs_Qq g (qs_F g SA sz) post) (qs_X g (qs_F g SA sz) px) mc ms (qs_F g SA sz) := by
  refine vx_ofW (cc := cX6_craneNumbered) (maxL := 2) (ret := (some (.object "QuayMesh$Crane"))) (by decide +kernel) rfl ?_
  intro p e s m args below meth c s₁ B hml hnt hv
  obtain ⟨rfl, hsz, hG⟩ := qs_Gd.start hv
  subst hsz
  have hx := B.exec
  have hb := B.bytes
  have hr := B.returns
  have hts := atoms_spec (ws := wsX6_craneNumbered) B.pre
  have hown : s.vm.findClass RX6 = some m.cls := findClass_of_methodNamed B.named
  have hlk := B.notSynchronized
  have in0 : ∀ w ∈ u_ws RJx4a65c TJx4a65c 3, w ∈ wsX6_craneNumbered := fun w h => List.mem_cons_of_mem _ (List.mem_append_left _ (List.mem_append_right _ (h)))
  have in6 : ∀ w ∈ u_ws RX6 TX6 8, w ∈ wsX6_craneNumbered := fun w h => List.mem_cons_of_mem _ (List.mem_append_left _ (List.mem_append_left _ (List.mem_append_right _ (h))))
  have hkc : 0 ≤ mc := Nat.zero_le _
  have hks : 0 ≤ ms := Nat.zero_le _
  have hmR : mc ≤ (headSpec wsX6_craneNumbered ({ frames := 7, cells := mc, slots := ms, locals := 111 } : Room)).room.cells := Nat.le_refl _
  have hsR : ms ≤ (headSpec wsX6_craneNumbered ({ frames := 7, cells := mc, slots := ms, locals := 111 } : Room)).room.slots := Nat.le_refl _
  have hl := lv_entry ([.ref a0z, .int x1z]) (n := 2) (Nat.le_of_ble_eq_true rfl)
  rw [lg_entry_eq]
  generalize (lg_sl ([.ref a0z, .int x1z]) ++ List.replicate (2 - (lg_sl ([.ref a0z, .int x1z])).length) Slot.unset).toArray = ls at hl ⊢
  have hl : lv_has ls 2 [(0, .ref a0z), (1, .int x1z)] := hl
  unfold wp_X6_craneNumbered at h
  refine lv_iload_n hx hb dX6_craneNumbered_0 rfl (lv_at hl 1 rfl) ?_
  refine lv_aload_n hx hb dX6_craneNumbered_1 rfl (lv_at hl 0 rfl) ?_
  obtain ⟨⟨hL1, fK2⟩, h⟩ := h
  obtain ⟨q3, eq3, h⟩ := h
  refine qr_get (C := RX6) (T := TX6) (N := 8) (ci := 6) hx hb hts in6 hown hG hL1 fK2 (by decide) rfl 4 (by decide) rfl (hts (.fieldLink RX6 25 "QuayMesh" "cranes" "Ljava/util/ArrayList;") (List.mem_of_getElem? (i := 1) rfl)) (fun _ h9 => h9) (v := .ref q3) (qs_rf eq3) dX6_craneNumbered_2 ?_
  obtain ⟨⟨hL6, fK7⟩, h⟩ := h
  refine qc_i hG (va_runV (As := []) (rest := [.int x1z]) ⟨hx, hb, hml, hown, hts⟩ (c_Jx4a65c_size_8abf5 l g _ SA q3 h) (cwV 0 hts gX6_craneNumbered_Jx4a65c_size_8abf5 rfl rfl rfl (by decide +kernel) ⟨(Nat.le_of_ble_eq_true rfl), (Nat.le_of_ble_eq_true rfl)⟩) ⟨qs_Pc.blind _ _ _ _, hG.recv hL6 fK7 (by decide) rfl, hG.pre _⟩ rfl rfl hl.1 rfl (lv_room (Nat.le_of_ble_eq_true rfl)) dX6_craneNumbered_5 ⟨Nat.le_trans hkc hmR, Nat.le_trans hks hsR⟩) (fun v9 S8 H locs h hG => ?_)
  obtain ⟨mck10, msk10, ⟨hs11c, hs11s⟩, h⟩ := h
  refine qx_v hG (vx_runS (As := [.int x1z, .int v9]) (rest := []) ⟨hx, hb, hml, hown, hts⟩ (c_X6_requireOneOf l hl9 g _ S8 x1z v9 h) (va_cwS 2 hts gX6_craneNumbered_X6_requireOneOf rfl rfl rfl (by decide +kernel) ⟨(Nat.le_of_ble_eq_true rfl), (Nat.le_of_ble_eq_true rfl)⟩) ⟨qs_Pc.blind _ _ _ _, hG.pre _⟩ rfl rfl hl.1 rfl (lv_room (Nat.le_of_ble_eq_true rfl)) dX6_craneNumbered_8 ⟨Nat.le_trans hs11c hmR, Nat.le_trans hs11s hsR⟩) (fun E S1 H locs ce q9 hp hG h1 h2 h3 => qx_out hnt hlk hG hp h1 h2 h3 hs11c hs11s) (fun S12 H locs h hG => ?_)
  have hkc := hs11c
  have hks := hs11s
  refine lv_aload_n hx hb dX6_craneNumbered_11 rfl (lv_at hl 0 rfl) ?_
  obtain ⟨⟨hL13, fK14⟩, h⟩ := h
  obtain ⟨q15, eq15, h⟩ := h
  refine qr_get (C := RX6) (T := TX6) (N := 8) (ci := 6) hx hb hts in6 hown hG hL13 fK14 (by decide) rfl 4 (by decide) rfl (hts (.fieldLink RX6 25 "QuayMesh" "cranes" "Ljava/util/ArrayList;") (List.mem_of_getElem? (i := 1) rfl)) (fun _ h9 => h9) (v := .ref q15) (qs_rf eq15) dX6_craneNumbered_12 ?_
  refine lv_iload_n hx hb dX6_craneNumbered_15 rfl (lv_at hl 1 rfl) ?_
  obtain ⟨⟨hL18, fK19⟩, h⟩ := h
  refine qc_q hG (va_runV (As := [.int x1z]) (rest := []) ⟨hx, hb, hml, hown, hts⟩ (c_Jx4a65c_get_915e3 l g _ S12 q15 x1z h) (cwV 1 hts gX6_craneNumbered_Jx4a65c_get_915e3 rfl rfl rfl (by decide +kernel) ⟨(Nat.le_of_ble_eq_true rfl), (Nat.le_of_ble_eq_true rfl)⟩) ⟨qs_Pc.blind _ _ _ _, hG.recv hL18 fK19 (by decide) rfl, hG.pre _⟩ rfl rfl hl.1 rfl (lv_room (Nat.le_of_ble_eq_true rfl)) dX6_craneNumbered_16 ⟨Nat.le_trans hkc hmR, Nat.le_trans hks hsR⟩) (fun o21 S20 H locs h hG => ?_)
  obtain ⟨q22, rfl, h⟩ := h
  obtain ⟨⟨hL23, fK24⟩, h⟩ := h
  refine qr_cast (N := 8) hx hb hG hL23 fK24 (by decide) rfl hown (hts (.classLink RX6 38 "QuayMesh$Crane") (List.mem_of_getElem? (i := 2) rfl)) dX6_craneNumbered_19 ?_
  refine vx_ret ?_
  exact qe_q (o := (some q22)) hx hb hr hlk rfl (Or.inl ⟨_, rfl⟩) hG h hkc hks dX6_craneNumbered_22
def wp_X6_truckNumbered_b18 (t0 m9 : Nat) (mc ms : Nat) (post : Option Nat → qs_S → Prop) (px : String → qs_S → Prop) (k n : Nat) (S : qs_S) : Prop := (k + 1 ≤ mc ∧ n + 6 ≤ ms) ∧ px "java/lang/IndexOutOfBoundsException" S
def wp_X6_truckNumbered (t0 m9 : Nat) (mc ms : Nat) (post : Option Nat → qs_S → Prop) (px : String → qs_S → Prop) (SA : qs_S) (a0z : Nat) (x1z : Int32) : Prop := (x1z < (4 : Int32) → (wp_X6_truckNumbered_b18 t0 m9 mc ms post px 0 0 SA)) ∧ (¬ x1z < (4 : Int32) → (∀ v3 : Int32, v3 = x1z - (4 : Int32) → (a0z ∈ qs_L SA ∧ qs_K SA a0z = 6) ∧ (∃ q6 : Nat, qs_R SA 5 a0z = some q6 ∧ ((q6 ∈ qs_L SA ∧ qs_K SA q6 = 0) ∧ (wp_Jx4a65c_size_8abf5 t0 m9 (fun (v12 : Int32) (S11 : qs_S) => (v3 < v12 → ((a0z ∈ qs_L S11 ∧ qs_K S11 a0z = 6) ∧ (∃ q16 : Nat, qs_R S11 5 a0z = some q16 ∧ (∀ v17 : Int32, v17 = x1z - (4 : Int32) → (q16 ∈ qs_L S11 ∧ qs_K S11 q16 = 0) ∧ (wp_Jx4a65c_get_915e3 t0 m9 (fun (o23 : Option Nat) (S22 : qs_S) => ∃ q24 : Nat, o23 = some q24 ∧ ((q24 ∈ qs_L S22 ∧ qs_K S22 q24 = 5) ∧ (post (some q24) S22))) S11 q16 v17))))) ∧ (¬ v3 < v12 → (wp_X6_truckNumbered_b18 t0 m9 mc ms post px 0 0 S11))) SA q6)))))
set_option maxHeartbeats 4000000 in
set_option maxRecDepth 100000 in
theorem c_X6_truckNumbered (l : Launch) (hl9 : l.stackTraces = false) (g : qs_G) (sz : Nat) (SA : qs_S) (a0z : Nat) (x1z : Int32) {mc ms : Nat} {post : Option Nat → qs_S → Prop} {px : String → qs_S → Prop} (h : wp_X6_truckNumbered g.2.2.2.2.2.2.1 g.2.2.2.2.2.2.2 mc ms post px SA a0z x1z) : vx_Met l yX6_truckNumbered wsX6_truckNumbered ({ frames := 6, cells := mc, slots := ms, locals := 90 } : Room) (qs_Pc g sz SA [.ref a0z, .int x1z]) (qs_Qq g (qs_F g SA sz) post) (qs_X g (qs_F g SA sz) px) mc ms (qs_F g SA sz) := by
  refine vx_ofW (cc := cX6_truckNumbered) (maxL := 2) (ret := (some (.object "QuayMesh$Truck"))) (by decide +kernel) rfl ?_
  intro p e s m args below meth c s₁ B hml hnt hv
  obtain ⟨rfl, hsz, hG⟩ := qs_Gd.start hv
  subst hsz
  have hx := B.exec
  have hb := B.bytes
  have hr := B.returns
  have hts := atoms_spec (ws := wsX6_truckNumbered) B.pre
  have hown : s.vm.findClass RX6 = some m.cls := findClass_of_methodNamed B.named
  have hlk := B.notSynchronized
  have in0 : ∀ w ∈ u_ws RJx4a65c TJx4a65c 3, w ∈ wsX6_truckNumbered := fun w h => List.mem_cons_of_mem _ (List.mem_append_left _ (List.mem_append_right _ (h)))
  have in6 : ∀ w ∈ u_ws RX6 TX6 8, w ∈ wsX6_truckNumbered := fun w h => List.mem_cons_of_mem _ (List.mem_append_left _ (List.mem_append_left _ (List.mem_append_right _ (h))))
  have hkc : 0 ≤ mc := Nat.zero_le _
  have hks : 0 ≤ ms := Nat.zero_le _
  have hmR : mc ≤ (headSpec wsX6_truckNumbered ({ frames := 6, cells := mc, slots := ms, locals := 90 } : Room)).room.cells := Nat.le_refl _
  have hsR : ms ≤ (headSpec wsX6_truckNumbered ({ frames := 6, cells := mc, slots := ms, locals := 90 } : Room)).room.slots := Nat.le_refl _
  have b18 : ∀ (S : qs_S) (H : Heap) (locs : List Loc) (k n : Nat) (ls : Array Slot), k ≤ mc → n ≤ ms → wp_X6_truckNumbered_b18 g.2.2.2.2.2.2.1 g.2.2.2.2.2.2.2 mc ms post px k n S → qs_Gd g (qs_F g SA s.heap.size) s S H locs → lv_has ls 2 [] → W p l e (headSpec wsX6_truckNumbered ({ frames := 6, cells := mc, slots := ms, locals := 90 } : Room)).room s m (([.ref a0z, .int x1z] : List Value)).toArray below meth c H locs k n (vx_MQ below (qs_Qq g (qs_F g SA s.heap.size) post) (qs_X g (qs_F g SA s.heap.size) px) (([.ref a0z, .int x1z] : List Value)).toArray s mc ms (qs_F g SA s.heap.size)) (F0 m 18 ls []) := by
    intro S H locs k n ls hkc hks h hG hl
    unfold wp_X6_truckNumbered_b18 at h
    obtain ⟨⟨hs1c, hs1s⟩, h⟩ := h
    exact qx_throwW (ik := 127) (is := 344) (ic := 131) (cls := "java/lang/IndexOutOfBoundsException") hx hb hl9 hts hown (by decide +kernel) (by decide +kernel) (List.mem_of_getElem? (i := 6) rfl) (hts (.classLink RX6 127 "java/lang/IndexOutOfBoundsException") (List.mem_of_getElem? (i := 1) rfl)) (hts (.initialized "java/lang/IndexOutOfBoundsException") (List.mem_of_getElem? (i := 2) rfl)) (fun w h => List.mem_cons_of_mem _ (List.mem_append_right _ (h))) qt_bd_IOB qt_gd_IOB hG (hl.1.trans hml.symm) dX6_truckNumbered_18 dX6_truckNumbered_21 dX6_truckNumbered_22 dX6_truckNumbered_25 dX6_truckNumbered_28 hnt (Nat.le_of_ble_eq_true rfl) (Nat.le_of_ble_eq_true rfl) hmR hsR hlk h hs1c hs1s
  have hl := lv_entry ([.ref a0z, .int x1z]) (n := 2) (Nat.le_of_ble_eq_true rfl)
  rw [lg_entry_eq]
  generalize (lg_sl ([.ref a0z, .int x1z]) ++ List.replicate (2 - (lg_sl ([.ref a0z, .int x1z])).length) Slot.unset).toArray = ls at hl ⊢
  have hl : lv_has ls 2 [(0, .ref a0z), (1, .int x1z)] := hl
  unfold wp_X6_truckNumbered at h
  refine lv_iload_n hx hb dX6_truckNumbered_0 rfl (lv_at hl 1 rfl) ?_
  refine lv_iconst (v := (4 : Int32)) hx hb dX6_truckNumbered_1 (by decide +kernel) ?_
  refine lv_icmp_lt (tgt := 18) hx hb dX6_truckNumbered_2 (by decide) (fun c2 => ?_) (fun c2 => ?_)
  · have h := h.1 c2
    exact b18 SA _ _ 0 0 ls hkc hks h hG (lv_sub hl [] rfl)
  · have h := h.2 c2
    refine lv_iload_n hx hb dX6_truckNumbered_5 rfl (lv_at hl 1 rfl) ?_
    refine lv_iconst (v := (4 : Int32)) hx hb dX6_truckNumbered_6 (by decide +kernel) ?_
    refine lv_isub hx hb dX6_truckNumbered_7 ?_
    refine lv_topi (fun v3 ev3 => ?_)
    have h := h v3 ev3
    refine lv_aload_n hx hb dX6_truckNumbered_8 rfl (lv_at hl 0 rfl) ?_
    obtain ⟨⟨hL4, fK5⟩, h⟩ := h
    obtain ⟨q6, eq6, h⟩ := h
    refine qr_get (C := RX6) (T := TX6) (N := 8) (ci := 6) hx hb hts in6 hown hG hL4 fK5 (by decide) rfl 5 (by decide) rfl (hts (.fieldLink RX6 28 "QuayMesh" "trucks" "Ljava/util/ArrayList;") (List.mem_of_getElem? (i := 3) rfl)) (fun _ h9 => h9) (v := .ref q6) (qs_rf eq6) dX6_truckNumbered_9 ?_
    obtain ⟨⟨hL9, fK10⟩, h⟩ := h
    refine qc_i hG (va_runV (As := []) (rest := [.int v3]) ⟨hx, hb, hml, hown, hts⟩ (c_Jx4a65c_size_8abf5 l g _ SA q6 h) (cwV 0 hts gX6_truckNumbered_Jx4a65c_size_8abf5 rfl rfl rfl (by decide +kernel) ⟨(Nat.le_of_ble_eq_true rfl), (Nat.le_of_ble_eq_true rfl)⟩) ⟨qs_Pc.blind _ _ _ _, hG.recv hL9 fK10 (by decide) rfl, hG.pre _⟩ rfl rfl hl.1 rfl (lv_room (Nat.le_of_ble_eq_true rfl)) dX6_truckNumbered_12 ⟨Nat.le_trans hkc hmR, Nat.le_trans hks hsR⟩) (fun v12 S11 H locs h hG => ?_)
    refine lv_icmp_lt (tgt := 29) hx hb dX6_truckNumbered_15 (by decide) (fun c13 => ?_) (fun c13 => ?_)
    · have h := h.1 c13
      refine lv_aload_n hx hb dX6_truckNumbered_29 rfl (lv_at hl 0 rfl) ?_
      obtain ⟨⟨hL14, fK15⟩, h⟩ := h
      obtain ⟨q16, eq16, h⟩ := h
      refine qr_get (C := RX6) (T := TX6) (N := 8) (ci := 6) hx hb hts in6 hown hG hL14 fK15 (by decide) rfl 5 (by decide) rfl (hts (.fieldLink RX6 28 "QuayMesh" "trucks" "Ljava/util/ArrayList;") (List.mem_of_getElem? (i := 3) rfl)) (fun _ h9 => h9) (v := .ref q16) (qs_rf eq16) dX6_truckNumbered_30 ?_
      refine lv_iload_n hx hb dX6_truckNumbered_33 rfl (lv_at hl 1 rfl) ?_
      refine lv_iconst (v := (4 : Int32)) hx hb dX6_truckNumbered_34 (by decide +kernel) ?_
      refine lv_isub hx hb dX6_truckNumbered_35 ?_
      refine lv_topi (fun v17 ev17 => ?_)
      have h := h v17 ev17
      obtain ⟨⟨hL20, fK21⟩, h⟩ := h
      refine qc_q hG (va_runV (As := [.int v17]) (rest := []) ⟨hx, hb, hml, hown, hts⟩ (c_Jx4a65c_get_915e3 l g _ S11 q16 v17 h) (cwV 1 hts gX6_truckNumbered_Jx4a65c_get_915e3 rfl rfl rfl (by decide +kernel) ⟨(Nat.le_of_ble_eq_true rfl), (Nat.le_of_ble_eq_true rfl)⟩) ⟨qs_Pc.blind _ _ _ _, hG.recv hL20 fK21 (by decide) rfl, hG.pre _⟩ rfl rfl hl.1 rfl (lv_room (Nat.le_of_ble_eq_true rfl)) dX6_truckNumbered_36 ⟨Nat.le_trans hkc hmR, Nat.le_trans hks hsR⟩) (fun o23 S22 H locs h hG => ?_)
      obtain ⟨q24, rfl, h⟩ := h
      obtain ⟨⟨hL25, fK26⟩, h⟩ := h
      refine qr_cast (N := 8) hx hb hG hL25 fK26 (by decide) rfl hown (hts (.classLink RX6 47 "QuayMesh$Truck") (List.mem_of_getElem? (i := 4) rfl)) dX6_truckNumbered_39 ?_
      refine vx_ret ?_
      exact qe_q (o := (some q24)) hx hb hr hlk rfl (Or.inl ⟨_, rfl⟩) hG h hkc hks dX6_truckNumbered_42
    · have h := h.2 c13
      exact b18 S11 _ _ 0 0 ls hkc hks h hG (lv_sub hl [] rfl)
def wp_X6_workerNumbered_b18 (t0 m9 : Nat) (mc ms : Nat) (post : Option Nat → qs_S → Prop) (px : String → qs_S → Prop) (k n : Nat) (S : qs_S) (r0 : Nat) : Prop := post (some r0) S
def wp_X6_workerNumbered (t0 m9 : Nat) (mc ms : Nat) (post : Option Nat → qs_S → Prop) (px : String → qs_S → Prop) (SA : qs_S) (a0z : Nat) (x1z : Int32) : Prop := ((4 : Int32) ≤ x1z → ((a0z ∈ qs_L SA ∧ qs_K SA a0z = 6) ∧ (∃ mck2 msk2 : Nat, (0 + mck2 ≤ mc ∧ 0 + msk2 ≤ ms) ∧ (wp_X6_truckNumbered t0 m9 mck2 msk2 (fun (o7 : Option Nat) (S6 : qs_S) => ∃ q8 : Nat, o7 = some q8 ∧ (wp_X6_workerNumbered_b18 t0 m9 mc ms post px (0 + mck2) (0 + msk2) S6 q8)) px SA a0z x1z)))) ∧ (¬ (4 : Int32) ≤ x1z → ((a0z ∈ qs_L SA ∧ qs_K SA a0z = 6) ∧ (∃ mck9 msk9 : Nat, (0 + mck9 ≤ mc ∧ 0 + msk9 ≤ ms) ∧ (wp_X6_craneNumbered t0 m9 mck9 msk9 (fun (o14 : Option Nat) (S13 : qs_S) => ∃ q15 : Nat, o14 = some q15 ∧ (wp_X6_workerNumbered_b18 t0 m9 mc ms post px (0 + mck9) (0 + msk9) S13 q15)) px SA a0z x1z))))
set_option maxHeartbeats 4000000 in
set_option maxRecDepth 100000 in
theorem c_X6_workerNumbered (l : Launch) (hl9 : l.stackTraces = false) (g : qs_G) (sz : Nat) (SA : qs_S) (a0z : Nat) (x1z : Int32) {mc ms : Nat} {post : Option Nat → qs_S → Prop} {px : String → qs_S → Prop} (h : wp_X6_workerNumbered g.2.2.2.2.2.2.1 g.2.2.2.2.2.2.2 mc ms post px SA a0z x1z) : vx_Met l yX6_workerNumbered wsX6_workerNumbered ({ frames := 8, cells := mc, slots := ms, locals := 132 } : Room) (qs_Pc g sz SA [.ref a0z, .int x1z]) (qs_Qq g (qs_F g SA sz) post) (qs_X g (qs_F g SA sz) px) mc ms (qs_F g SA sz) := by
  refine vx_ofW (cc := cX6_workerNumbered) (maxL := 2) (ret := (some (.object "QuayMesh$Worker"))) (by decide +kernel) rfl ?_
  intro p e s m args below meth c s₁ B hml hnt hv
  obtain ⟨rfl, hsz, hG⟩ := qs_Gd.start hv
  subst hsz
  have hx := B.exec
  have hb := B.bytes
  have hr := B.returns
  have hts := atoms_spec (ws := wsX6_workerNumbered) B.pre
  have hown : s.vm.findClass RX6 = some m.cls := findClass_of_methodNamed B.named
  have hlk := B.notSynchronized
  have in0 : ∀ w ∈ u_ws RJx4a65c TJx4a65c 3, w ∈ wsX6_workerNumbered := fun w h => List.mem_cons_of_mem _ (List.mem_append_left _ (List.mem_append_right _ (h)))
  have in6 : ∀ w ∈ u_ws RX6 TX6 8, w ∈ wsX6_workerNumbered := fun w h => List.mem_cons_of_mem _ (List.mem_append_left _ (List.mem_append_left _ (List.mem_append_right _ (h))))
  have hkc : 0 ≤ mc := Nat.zero_le _
  have hks : 0 ≤ ms := Nat.zero_le _
  have hmR : mc ≤ (headSpec wsX6_workerNumbered ({ frames := 8, cells := mc, slots := ms, locals := 132 } : Room)).room.cells := Nat.le_refl _
  have hsR : ms ≤ (headSpec wsX6_workerNumbered ({ frames := 8, cells := mc, slots := ms, locals := 132 } : Room)).room.slots := Nat.le_refl _
  have b18 : ∀ (S : qs_S) (r0 : Nat) (H : Heap) (locs : List Loc) (k n : Nat) (ls : Array Slot), k ≤ mc → n ≤ ms → wp_X6_workerNumbered_b18 g.2.2.2.2.2.2.1 g.2.2.2.2.2.2.2 mc ms post px k n S r0 → qs_Gd g (qs_F g SA s.heap.size) s S H locs → lv_has ls 2 [] → W p l e (headSpec wsX6_workerNumbered ({ frames := 8, cells := mc, slots := ms, locals := 132 } : Room)).room s m (([.ref a0z, .int x1z] : List Value)).toArray below meth c H locs k n (vx_MQ below (qs_Qq g (qs_F g SA s.heap.size) post) (qs_X g (qs_F g SA s.heap.size) px) (([.ref a0z, .int x1z] : List Value)).toArray s mc ms (qs_F g SA s.heap.size)) (F0 m 18 ls [.ref r0]) := by
    intro S r0 H locs k n ls hkc hks h hG hl
    unfold wp_X6_workerNumbered_b18 at h
    refine vx_ret ?_
    exact qe_q (o := (some r0)) hx hb hr hlk rfl (Or.inl ⟨_, rfl⟩) hG h hkc hks dX6_workerNumbered_18
  have hl := lv_entry ([.ref a0z, .int x1z]) (n := 2) (Nat.le_of_ble_eq_true rfl)
  rw [lg_entry_eq]
  generalize (lg_sl ([.ref a0z, .int x1z]) ++ List.replicate (2 - (lg_sl ([.ref a0z, .int x1z])).length) Slot.unset).toArray = ls at hl ⊢
  have hl : lv_has ls 2 [(0, .ref a0z), (1, .int x1z)] := hl
  unfold wp_X6_workerNumbered at h
  refine lv_iload_n hx hb dX6_workerNumbered_0 rfl (lv_at hl 1 rfl) ?_
  refine lv_iconst (v := (4 : Int32)) hx hb dX6_workerNumbered_1 (by decide +kernel) ?_
  refine lv_icmp_ge (tgt := 13) hx hb dX6_workerNumbered_2 (by decide) (fun c1 => ?_) (fun c1 => ?_)
  · have h := h.1 c1
    refine lv_aload_n hx hb dX6_workerNumbered_13 rfl (lv_at hl 0 rfl) ?_
    refine lv_iload_n hx hb dX6_workerNumbered_14 rfl (lv_at hl 1 rfl) ?_
    obtain ⟨⟨hL4, fK5⟩, h⟩ := h
    obtain ⟨mck2, msk2, ⟨hs3c, hs3s⟩, h⟩ := h
    refine qx_q hG (vx_runV (As := [.int x1z]) (rest := []) ⟨hx, hb, hml, hown, hts⟩ (c_X6_truckNumbered l hl9 g _ SA a0z x1z h) (cwV 1 hts gX6_workerNumbered_X6_truckNumbered rfl rfl rfl (by decide +kernel) ⟨(Nat.le_of_ble_eq_true rfl), (Nat.le_of_ble_eq_true rfl)⟩) ⟨qs_Pc.blind _ _ _ _, hG.recv hL4 fK5 (by decide) rfl, hG.pre _⟩ rfl rfl hl.1 rfl (lv_room (Nat.le_of_ble_eq_true rfl)) dX6_workerNumbered_15 ⟨Nat.le_trans hs3c hmR, Nat.le_trans hs3s hsR⟩) (fun E S1 H locs ce q9 hp hG h1 h2 h3 => qx_out hnt hlk hG hp h1 h2 h3 hs3c hs3s) (fun o7 S6 H locs h hG => ?_)
    have hkc := hs3c
    have hks := hs3s
    obtain ⟨q8, rfl, h⟩ := h
    exact b18 S6 q8 _ _ (0 + mck2) (0 + msk2) ls hkc hks h hG (lv_sub hl [] rfl)
  · have h := h.2 c1
    refine lv_aload_n hx hb dX6_workerNumbered_5 rfl (lv_at hl 0 rfl) ?_
    refine lv_iload_n hx hb dX6_workerNumbered_6 rfl (lv_at hl 1 rfl) ?_
    obtain ⟨⟨hL11, fK12⟩, h⟩ := h
    obtain ⟨mck9, msk9, ⟨hs10c, hs10s⟩, h⟩ := h
    refine qx_q hG (vx_runV (As := [.int x1z]) (rest := []) ⟨hx, hb, hml, hown, hts⟩ (c_X6_craneNumbered l hl9 g _ SA a0z x1z h) (cwV 1 hts gX6_workerNumbered_X6_craneNumbered rfl rfl rfl (by decide +kernel) ⟨(Nat.le_of_ble_eq_true rfl), (Nat.le_of_ble_eq_true rfl)⟩) ⟨qs_Pc.blind _ _ _ _, hG.recv hL11 fK12 (by decide) rfl, hG.pre _⟩ rfl rfl hl.1 rfl (lv_room (Nat.le_of_ble_eq_true rfl)) dX6_workerNumbered_7 ⟨Nat.le_trans hs10c hmR, Nat.le_trans hs10s hsR⟩) (fun E S1 H locs ce q9 hp hG h1 h2 h3 => qx_out hnt hlk hG hp h1 h2 h3 hs10c hs10s) (fun o14 S13 H locs h hG => ?_)
    have hkc := hs10c
    have hks := hs10s
    obtain ⟨q15, rfl, h⟩ := h
    refine lv_goto (tgt := 18) hx hb dX6_workerNumbered_10 (by decide) ?_
    exact b18 S13 q15 _ _ (0 + mck9) (0 + msk9) ls hkc hks h hG (lv_sub hl [] rfl)
def wp_X6_countAt_b40 (t0 m9 : Nat) (post : Int32 → qs_S → Prop) (K5 : qs_S → Nat → Int32 → Int32 → Int32 → Int32 → Prop) (S : qs_S) (a0 : Nat) (x1 : Int32) (x2 : Int32) (x3 : Int32) (x4 : Int32) : Prop := ∀ v1 : Int32, v1 = x4 + 1 → K5 S a0 x1 x2 x3 v1
def wp_X6_countAt_c5 (t0 m9 : Nat) (post : Int32 → qs_S → Prop) (K5 : qs_S → Nat → Int32 → Int32 → Int32 → Int32 → Prop) (S : qs_S) (a0 : Nat) (x1 : Int32) (x2 : Int32) (x3 : Int32) (x4 : Int32) : Prop := (a0 ∈ qs_L S ∧ qs_K S a0 = 6) ∧ (∃ q4 : Nat, qs_R S 1 a0 = some q4 ∧ ((q4 ∈ qs_L S ∧ qs_K S q4 = 0) ∧ (wp_Jx4a65c_size_8abf5 t0 m9 (fun (v10 : Int32) (S9 : qs_S) => (v10 ≤ x4 → (post x3 S9)) ∧ (¬ v10 ≤ x4 → ((a0 ∈ qs_L S9 ∧ qs_K S9 a0 = 6) ∧ (∃ q14 : Nat, qs_R S9 1 a0 = some q14 ∧ ((q14 ∈ qs_L S9 ∧ qs_K S9 q14 = 0) ∧ (wp_Jx4a65c_get_915e3 t0 m9 (fun (o20 : Option Nat) (S19 : qs_S) => ∃ q21 : Nat, o20 = some q21 ∧ ((q21 ∈ qs_L S19 ∧ qs_K S19 q21 = 1) ∧ (wp_X0_isAt t0 m9 (fun (v27 : Int32) (S26 : qs_S) => (v27 = 0 → (wp_X6_countAt_b40 t0 m9 post K5 S26 a0 x1 x2 x3 x4)) ∧ (¬ v27 = 0 → (∀ v29 : Int32, v29 = x3 + 1 → wp_X6_countAt_b40 t0 m9 post K5 S26 a0 x1 x2 v29 x4))) S19 q21 x1 x2))) S9 q14 x4)))))) S q4)))
def wp_X6_countAt_b5 (t0 m9 : Nat) (post : Int32 → qs_S → Prop) : Nat → qs_S → Nat → Int32 → Int32 → Int32 → Int32 → Prop
  | 0 => fun _ _ _ _ _ _ => False
  | n9 + 1 => wp_X6_countAt_c5 t0 m9 post (wp_X6_countAt_b5 t0 m9 post n9)
def wp_X6_countAt (t0 m9 : Nat) (post : Int32 → qs_S → Prop) (SA : qs_S) (a0z : Nat) (x1z : Int32) (x2z : Int32) : Prop := ∃ n30 : Nat, wp_X6_countAt_b5 t0 m9 post n30 SA a0z x1z x2z (0 : Int32) (0 : Int32)
set_option maxHeartbeats 4000000 in
set_option maxRecDepth 100000 in
theorem c_X6_countAt (l : Launch) (g : qs_G) (sz : Nat) (SA : qs_S) (a0z : Nat) (x1z : Int32) (x2z : Int32) {post : Int32 → qs_S → Prop} (h : wp_X6_countAt g.2.2.2.2.2.2.1 g.2.2.2.2.2.2.2 post SA a0z x1z x2z) : Met l yX6_countAt wsX6_countAt ({ frames := 3, cells := 0, slots := 0, locals := 64 } : Room) (qs_Pc g sz SA [.ref a0z, .int x1z, .int x2z]) (qs_Qi g (qs_F g SA sz) post) 0 0 (qs_F g SA sz) := by
  refine Met.ofW (cc := cX6_countAt) (maxL := 5) (ret := (some .int)) (by decide +kernel) rfl ?_
  intro p e s m args below meth c s₁ B hml hv
  obtain ⟨rfl, hsz, hG⟩ := qs_Gd.start hv
  subst hsz
  have hx := B.exec
  have hb := B.bytes
  have hr := B.returns
  have hts := atoms_spec (ws := wsX6_countAt) B.pre
  have hown : s.vm.findClass RX6 = some m.cls := findClass_of_methodNamed B.named
  have hlk := B.notSynchronized
  have in0 : ∀ w ∈ u_ws RJx4a65c TJx4a65c 3, w ∈ wsX6_countAt := fun w h => List.mem_cons_of_mem _ (List.mem_append_left _ (List.mem_append_right _ (h)))
  have in1 : ∀ w ∈ u_ws RX0 TX0 8, w ∈ wsX6_countAt := fun w h => List.mem_cons_of_mem _ (List.mem_append_right _ (h))
  have in6 : ∀ w ∈ u_ws RX6 TX6 8, w ∈ wsX6_countAt := fun w h => List.mem_cons_of_mem _ (List.mem_append_left _ (List.mem_append_left _ (List.mem_append_right _ (h))))
  have b40 : ∀ (K5 : qs_S → Nat → Int32 → Int32 → Int32 → Int32 → Prop), (∀ (S : qs_S) (a0 : Nat) (x1 : Int32) (x2 : Int32) (x3 : Int32) (x4 : Int32) (H : Heap) (locs : List Loc) (ls : Array Slot), K5 S a0 x1 x2 x3 x4 → qs_Gd g (qs_F g SA s.heap.size) s S H locs → lv_has ls 5 [(0, .ref a0), (1, .int x1), (2, .int x2), (3, .int x3), (4, .int x4)] → W p l e (headSpec wsX6_countAt ({ frames := 3, cells := 0, slots := 0, locals := 64 } : Room)).room s m (([.ref a0z, .int x1z, .int x2z] : List Value)).toArray below meth c H locs 0 0 (MQ below (qs_Qi g (qs_F g SA s.heap.size) post) (([.ref a0z, .int x1z, .int x2z] : List Value)).toArray s 0 0 (qs_F g SA s.heap.size)) (F0 m 5 ls [])) → ∀ (S : qs_S) (a0 : Nat) (x1 : Int32) (x2 : Int32) (x3 : Int32) (x4 : Int32) (H : Heap) (locs : List Loc) (ls : Array Slot), wp_X6_countAt_b40 g.2.2.2.2.2.2.1 g.2.2.2.2.2.2.2 post K5 S a0 x1 x2 x3 x4 → qs_Gd g (qs_F g SA s.heap.size) s S H locs → lv_has ls 5 [(0, .ref a0), (1, .int x1), (2, .int x2), (3, .int x3), (4, .int x4)] → W p l e (headSpec wsX6_countAt ({ frames := 3, cells := 0, slots := 0, locals := 64 } : Room)).room s m (([.ref a0z, .int x1z, .int x2z] : List Value)).toArray below meth c H locs 0 0 (MQ below (qs_Qi g (qs_F g SA s.heap.size) post) (([.ref a0z, .int x1z, .int x2z] : List Value)).toArray s 0 0 (qs_F g SA s.heap.size)) (F0 m 40 ls []) := by
    intro K5 hK5 S a0 x1 x2 x3 x4 H locs ls h hG hl
    unfold wp_X6_countAt_b40 at h
    obtain ⟨v1, ev1⟩ : ∃ y : Int32, y = x4 + 1 := ⟨_, rfl⟩
    have h := h v1 ev1
    refine lv_iinc (v := v1) (lv' := [(4, .int v1), (0, .ref a0), (1, .int x1), (2, .int x2), (3, .int x3)]) hx hb dX6_countAt_40 hl (k := 4) rfl (by rw [ev1]; rfl) (by decide) rfl (fun ls hl => ?_)
    refine lv_goto (tgt := 5) hx hb dX6_countAt_43 (by decide) ?_
    exact hK5 S a0 x1 x2 x3 v1 _ _ ls h hG (lv_sub hl [1, 2, 3, 4, 0] rfl)
  have c5 : ∀ (K5 : qs_S → Nat → Int32 → Int32 → Int32 → Int32 → Prop), (∀ (S : qs_S) (a0 : Nat) (x1 : Int32) (x2 : Int32) (x3 : Int32) (x4 : Int32) (H : Heap) (locs : List Loc) (ls : Array Slot), K5 S a0 x1 x2 x3 x4 → qs_Gd g (qs_F g SA s.heap.size) s S H locs → lv_has ls 5 [(0, .ref a0), (1, .int x1), (2, .int x2), (3, .int x3), (4, .int x4)] → W p l e (headSpec wsX6_countAt ({ frames := 3, cells := 0, slots := 0, locals := 64 } : Room)).room s m (([.ref a0z, .int x1z, .int x2z] : List Value)).toArray below meth c H locs 0 0 (MQ below (qs_Qi g (qs_F g SA s.heap.size) post) (([.ref a0z, .int x1z, .int x2z] : List Value)).toArray s 0 0 (qs_F g SA s.heap.size)) (F0 m 5 ls [])) → ∀ (S : qs_S) (a0 : Nat) (x1 : Int32) (x2 : Int32) (x3 : Int32) (x4 : Int32) (H : Heap) (locs : List Loc) (ls : Array Slot), wp_X6_countAt_c5 g.2.2.2.2.2.2.1 g.2.2.2.2.2.2.2 post K5 S a0 x1 x2 x3 x4 → qs_Gd g (qs_F g SA s.heap.size) s S H locs → lv_has ls 5 [(0, .ref a0), (1, .int x1), (2, .int x2), (3, .int x3), (4, .int x4)] → W p l e (headSpec wsX6_countAt ({ frames := 3, cells := 0, slots := 0, locals := 64 } : Room)).room s m (([.ref a0z, .int x1z, .int x2z] : List Value)).toArray below meth c H locs 0 0 (MQ below (qs_Qi g (qs_F g SA s.heap.size) post) (([.ref a0z, .int x1z, .int x2z] : List Value)).toArray s 0 0 (qs_F g SA s.heap.size)) (F0 m 5 ls []) := by
    intro K5 hK5 S a0 x1 x2 x3 x4 H locs ls h hG hl
    unfold wp_X6_countAt_c5 at h
    refine lv_iload hx hb dX6_countAt_5 (lv_at hl 4 rfl) ?_
    refine lv_aload_n hx hb dX6_countAt_7 rfl (lv_at hl 0 rfl) ?_
    obtain ⟨⟨hL2, fK3⟩, h⟩ := h
    obtain ⟨q4, eq4, h⟩ := h
    refine qr_get (C := RX6) (T := TX6) (N := 8) (ci := 6) hx hb hts in6 hown hG hL2 fK3 (by decide) rfl 1 (by decide) rfl (hts (.fieldLink RX6 16 "QuayMesh" "allBoxes" "Ljava/util/ArrayList;") (List.mem_of_getElem? (i := 1) rfl)) (fun _ h9 => h9) (v := .ref q4) (qs_rf eq4) dX6_countAt_8 ?_
    obtain ⟨⟨hL7, fK8⟩, h⟩ := h
    refine qc_i hG (va_runV (As := []) (rest := [.int x4]) ⟨hx, hb, hml, hown, hts⟩ (c_Jx4a65c_size_8abf5 l g _ S q4 h) (cwV 0 hts gX6_countAt_Jx4a65c_size_8abf5 rfl rfl rfl (by decide +kernel) ⟨(Nat.le_of_ble_eq_true rfl), (Nat.le_of_ble_eq_true rfl)⟩) ⟨qs_Pc.blind _ _ _ _, hG.recv hL7 fK8 (by decide) rfl, hG.pre _⟩ rfl rfl hl.1 rfl (lv_room (Nat.le_of_ble_eq_true rfl)) dX6_countAt_11 ⟨Nat.zero_le _, Nat.zero_le _⟩) (fun v10 S9 H locs h hG => ?_)
    refine lv_icmp_ge (tgt := 46) hx hb dX6_countAt_14 (by decide) (fun c11 => ?_) (fun c11 => ?_)
    · have h := h.1 c11
      refine lv_iload_n hx hb dX6_countAt_46 rfl (lv_at hl 3 rfl) ?_
      exact qe_i hx hb hr hlk hG h (Nat.le_refl _) (Nat.le_refl _) dX6_countAt_47
    · have h := h.2 c11
      refine lv_aload_n hx hb dX6_countAt_17 rfl (lv_at hl 0 rfl) ?_
      obtain ⟨⟨hL12, fK13⟩, h⟩ := h
      obtain ⟨q14, eq14, h⟩ := h
      refine qr_get (C := RX6) (T := TX6) (N := 8) (ci := 6) hx hb hts in6 hown hG hL12 fK13 (by decide) rfl 1 (by decide) rfl (hts (.fieldLink RX6 16 "QuayMesh" "allBoxes" "Ljava/util/ArrayList;") (List.mem_of_getElem? (i := 1) rfl)) (fun _ h9 => h9) (v := .ref q14) (qs_rf eq14) dX6_countAt_18 ?_
      refine lv_iload hx hb dX6_countAt_21 (lv_at hl 4 rfl) ?_
      obtain ⟨⟨hL17, fK18⟩, h⟩ := h
      refine qc_q hG (va_runV (As := [.int x4]) (rest := []) ⟨hx, hb, hml, hown, hts⟩ (c_Jx4a65c_get_915e3 l g _ S9 q14 x4 h) (cwV 1 hts gX6_countAt_Jx4a65c_get_915e3 rfl rfl rfl (by decide +kernel) ⟨(Nat.le_of_ble_eq_true rfl), (Nat.le_of_ble_eq_true rfl)⟩) ⟨qs_Pc.blind _ _ _ _, hG.recv hL17 fK18 (by decide) rfl, hG.pre _⟩ rfl rfl hl.1 rfl (lv_room (Nat.le_of_ble_eq_true rfl)) dX6_countAt_23 ⟨Nat.zero_le _, Nat.zero_le _⟩) (fun o20 S19 H locs h hG => ?_)
      obtain ⟨q21, rfl, h⟩ := h
      obtain ⟨⟨hL22, fK23⟩, h⟩ := h
      refine qr_cast (N := 8) hx hb hG hL22 fK23 (by decide) rfl hown (hts (.classLink RX6 92 "QuayMesh$Box") (List.mem_of_getElem? (i := 2) rfl)) dX6_countAt_26 ?_
      refine lv_iload_n hx hb dX6_countAt_29 rfl (lv_at hl 1 rfl) ?_
      refine lv_iload_n hx hb dX6_countAt_30 rfl (lv_at hl 2 rfl) ?_
      refine qc_i hG (va_runV (As := [.int x1, .int x2]) (rest := []) ⟨hx, hb, hml, hown, hts⟩ (c_X0_isAt l g _ S19 q21 x1 x2 h) (cwV 2 hts gX6_countAt_X0_isAt rfl rfl rfl (by decide +kernel) ⟨(Nat.le_of_ble_eq_true rfl), (Nat.le_of_ble_eq_true rfl)⟩) ⟨qs_Pc.blind _ _ _ _, hG.recv hL22 fK23 (by decide) rfl, hG.pre _⟩ rfl rfl hl.1 rfl (lv_room (Nat.le_of_ble_eq_true rfl)) dX6_countAt_31 ⟨Nat.zero_le _, Nat.zero_le _⟩) (fun v27 S26 H locs h hG => ?_)
      refine lv_if_eq (tgt := 40) hx hb dX6_countAt_34 (by decide) (fun c28 => ?_) (fun c28 => ?_)
      · have h := h.1 c28
        exact b40 K5 hK5 S26 a0 x1 x2 x3 x4 _ _ ls h hG (lv_sub hl [0, 1, 2, 3, 4] rfl)
      · have h := h.2 c28
        obtain ⟨v29, ev29⟩ : ∃ y : Int32, y = x3 + 1 := ⟨_, rfl⟩
        have h := h v29 ev29
        refine lv_iinc (v := v29) (lv' := [(3, .int v29), (0, .ref a0), (1, .int x1), (2, .int x2), (4, .int x4)]) hx hb dX6_countAt_37 hl (k := 3) rfl (by rw [ev29]; rfl) (by decide) rfl (fun ls hl => ?_)
        exact b40 K5 hK5 S26 a0 x1 x2 v29 x4 _ _ ls h hG (lv_sub hl [1, 2, 3, 0, 4] rfl)
  have b5 : ∀ n9 : Nat, ∀ (S : qs_S) (a0 : Nat) (x1 : Int32) (x2 : Int32) (x3 : Int32) (x4 : Int32) (H : Heap) (locs : List Loc) (ls : Array Slot), wp_X6_countAt_b5 g.2.2.2.2.2.2.1 g.2.2.2.2.2.2.2 post n9 S a0 x1 x2 x3 x4 → qs_Gd g (qs_F g SA s.heap.size) s S H locs → lv_has ls 5 [(0, .ref a0), (1, .int x1), (2, .int x2), (3, .int x3), (4, .int x4)] → W p l e (headSpec wsX6_countAt ({ frames := 3, cells := 0, slots := 0, locals := 64 } : Room)).room s m (([.ref a0z, .int x1z, .int x2z] : List Value)).toArray below meth c H locs 0 0 (MQ below (qs_Qi g (qs_F g SA s.heap.size) post) (([.ref a0z, .int x1z, .int x2z] : List Value)).toArray s 0 0 (qs_F g SA s.heap.size)) (F0 m 5 ls []) := by
    intro n9
    induction n9 with
    | zero =>
      intro S a0 x1 x2 x3 x4 H locs ls h hG hl
      exact False.elim h
    | succ n9 ih => exact c5 _ ih
  have hl := lv_entry ([.ref a0z, .int x1z, .int x2z]) (n := 5) (Nat.le_of_ble_eq_true rfl)
  rw [lg_entry_eq]
  generalize (lg_sl ([.ref a0z, .int x1z, .int x2z]) ++ List.replicate (5 - (lg_sl ([.ref a0z, .int x1z, .int x2z])).length) Slot.unset).toArray = ls at hl ⊢
  have hl : lv_has ls 5 [(0, .ref a0z), (1, .int x1z), (2, .int x2z)] := hl
  unfold wp_X6_countAt at h
  refine lv_iconst (v := (0 : Int32)) hx hb dX6_countAt_0 (by decide +kernel) ?_
  refine lv_istore_n (lv' := [(3, .int (0 : Int32)), (0, .ref a0z), (1, .int x1z), (2, .int x2z)]) hx hb dX6_countAt_1 rfl hl (by decide) rfl (fun ls hl => ?_)
  refine lv_iconst (v := (0 : Int32)) hx hb dX6_countAt_2 (by decide +kernel) ?_
  refine lv_istore (lv' := [(4, .int (0 : Int32)), (3, .int (0 : Int32)), (0, .ref a0z), (1, .int x1z), (2, .int x2z)]) hx hb dX6_countAt_3 hl (by decide) rfl (fun ls hl => ?_)
  obtain ⟨n30, h⟩ := h
  exact b5 n30 SA a0z x1z x2z (0 : Int32) (0 : Int32) _ _ ls h hG (lv_sub hl [2, 3, 4, 1, 0] rfl)
def wp_X6_isTaken_b54 (t0 m9 : Nat) (post : Int32 → qs_S → Prop) (K2 : qs_S → Nat → Int32 → Int32 → Int32 → Prop) (S : qs_S) (a0 : Nat) (x1 : Int32) (x2 : Int32) (x3 : Int32) : Prop := ∀ v1 : Int32, v1 = x3 + 1 → K2 S a0 x1 x2 v1
def wp_X6_isTaken_c2 (t0 m9 : Nat) (post : Int32 → qs_S → Prop) (K2 : qs_S → Nat → Int32 → Int32 → Int32 → Prop) (S : qs_S) (a0 : Nat) (x1 : Int32) (x2 : Int32) (x3 : Int32) : Prop := (a0 ∈ qs_L S ∧ qs_K S a0 = 6) ∧ (∃ q4 : Nat, qs_R S 0 a0 = some q4 ∧ ((q4 ∈ qs_L S ∧ qs_K S q4 = 0) ∧ (wp_Jx4a65c_size_8abf5 t0 m9 (fun (v10 : Int32) (S9 : qs_S) => (v10 ≤ x3 → (post (0 : Int32) S9)) ∧ (¬ v10 ≤ x3 → ((a0 ∈ qs_L S9 ∧ qs_K S9 a0 = 6) ∧ (∃ q14 : Nat, qs_R S9 0 a0 = some q14 ∧ ((q14 ∈ qs_L S9 ∧ qs_K S9 q14 = 0) ∧ (wp_Jx4a65c_get_915e3 t0 m9 (fun (o20 : Option Nat) (S19 : qs_S) => ∃ q21 : Nat, o20 = some q21 ∧ ((q21 ∈ qs_L S19 ∧ qs_K S19 q21 = 4) ∧ (∀ v24 : Int32, v24 = qs_I S19 2 q21 → (¬ v24 = 0 → (wp_X6_isTaken_b54 t0 m9 post K2 S19 a0 x1 x2 x3)) ∧ (v24 = 0 → (∀ v26 : Int32, v26 = qs_I S19 0 q21 → (x2 ≤ v26 → (wp_X6_isTaken_b54 t0 m9 post K2 S19 a0 x1 x2 x3)) ∧ (¬ x2 ≤ v26 → (∀ v28 : Int32, v28 = qs_I S19 1 q21 → (v28 ≤ x1 → (wp_X6_isTaken_b54 t0 m9 post K2 S19 a0 x1 x2 x3)) ∧ (¬ v28 ≤ x1 → (post (1 : Int32) S19))))))))) S9 q14 x3)))))) S q4)))
def wp_X6_isTaken_b2 (t0 m9 : Nat) (post : Int32 → qs_S → Prop) : Nat → qs_S → Nat → Int32 → Int32 → Int32 → Prop
  | 0 => fun _ _ _ _ _ => False
  | n9 + 1 => wp_X6_isTaken_c2 t0 m9 post (wp_X6_isTaken_b2 t0 m9 post n9)
def wp_X6_isTaken (t0 m9 : Nat) (post : Int32 → qs_S → Prop) (SA : qs_S) (a0z : Nat) (x1z : Int32) (x2z : Int32) : Prop := ∃ n30 : Nat, wp_X6_isTaken_b2 t0 m9 post n30 SA a0z x1z x2z (0 : Int32)
set_option maxHeartbeats 4000000 in
set_option maxRecDepth 100000 in
theorem c_X6_isTaken (l : Launch) (g : qs_G) (sz : Nat) (SA : qs_S) (a0z : Nat) (x1z : Int32) (x2z : Int32) {post : Int32 → qs_S → Prop} (h : wp_X6_isTaken g.2.2.2.2.2.2.1 g.2.2.2.2.2.2.2 post SA a0z x1z x2z) : Met l yX6_isTaken wsX6_isTaken ({ frames := 3, cells := 0, slots := 0, locals := 64 } : Room) (qs_Pc g sz SA [.ref a0z, .int x1z, .int x2z]) (qs_Qi g (qs_F g SA sz) post) 0 0 (qs_F g SA sz) := by
  refine Met.ofW (cc := cX6_isTaken) (maxL := 5) (ret := (some .boolean)) (by decide +kernel) rfl ?_
  intro p e s m args below meth c s₁ B hml hv
  obtain ⟨rfl, hsz, hG⟩ := qs_Gd.start hv
  subst hsz
  have hx := B.exec
  have hb := B.bytes
  have hr := B.returns
  have hts := atoms_spec (ws := wsX6_isTaken) B.pre
  have hown : s.vm.findClass RX6 = some m.cls := findClass_of_methodNamed B.named
  have hlk := B.notSynchronized
  have in0 : ∀ w ∈ u_ws RJx4a65c TJx4a65c 3, w ∈ wsX6_isTaken := fun w h => List.mem_cons_of_mem _ (List.mem_append_right _ (h))
  have in4 : ∀ w ∈ u_ws RX3 TX3 3, w ∈ wsX6_isTaken := fun w h => List.mem_cons_of_mem _ (List.mem_append_left _ (List.mem_append_right _ (h)))
  have in6 : ∀ w ∈ u_ws RX6 TX6 8, w ∈ wsX6_isTaken := fun w h => List.mem_cons_of_mem _ (List.mem_append_left _ (List.mem_append_left _ (List.mem_append_right _ (h))))
  have b54 : ∀ (K2 : qs_S → Nat → Int32 → Int32 → Int32 → Prop), (∀ (S : qs_S) (a0 : Nat) (x1 : Int32) (x2 : Int32) (x3 : Int32) (H : Heap) (locs : List Loc) (ls : Array Slot), K2 S a0 x1 x2 x3 → qs_Gd g (qs_F g SA s.heap.size) s S H locs → lv_has ls 5 [(0, .ref a0), (1, .int x1), (2, .int x2), (3, .int x3)] → W p l e (headSpec wsX6_isTaken ({ frames := 3, cells := 0, slots := 0, locals := 64 } : Room)).room s m (([.ref a0z, .int x1z, .int x2z] : List Value)).toArray below meth c H locs 0 0 (MQ below (qs_Qi g (qs_F g SA s.heap.size) post) (([.ref a0z, .int x1z, .int x2z] : List Value)).toArray s 0 0 (qs_F g SA s.heap.size)) (F0 m 2 ls [])) → ∀ (S : qs_S) (a0 : Nat) (x1 : Int32) (x2 : Int32) (x3 : Int32) (H : Heap) (locs : List Loc) (ls : Array Slot), wp_X6_isTaken_b54 g.2.2.2.2.2.2.1 g.2.2.2.2.2.2.2 post K2 S a0 x1 x2 x3 → qs_Gd g (qs_F g SA s.heap.size) s S H locs → lv_has ls 5 [(0, .ref a0), (1, .int x1), (2, .int x2), (3, .int x3)] → W p l e (headSpec wsX6_isTaken ({ frames := 3, cells := 0, slots := 0, locals := 64 } : Room)).room s m (([.ref a0z, .int x1z, .int x2z] : List Value)).toArray below meth c H locs 0 0 (MQ below (qs_Qi g (qs_F g SA s.heap.size) post) (([.ref a0z, .int x1z, .int x2z] : List Value)).toArray s 0 0 (qs_F g SA s.heap.size)) (F0 m 54 ls []) := by
    intro K2 hK2 S a0 x1 x2 x3 H locs ls h hG hl
    unfold wp_X6_isTaken_b54 at h
    obtain ⟨v1, ev1⟩ : ∃ y : Int32, y = x3 + 1 := ⟨_, rfl⟩
    have h := h v1 ev1
    refine lv_iinc (v := v1) (lv' := [(3, .int v1), (0, .ref a0), (1, .int x1), (2, .int x2)]) hx hb dX6_isTaken_54 hl (k := 3) rfl (by rw [ev1]; rfl) (by decide) rfl (fun ls hl => ?_)
    refine lv_goto (tgt := 2) hx hb dX6_isTaken_57 (by decide) ?_
    exact hK2 S a0 x1 x2 v1 _ _ ls h hG (lv_sub hl [1, 2, 3, 0] rfl)
  have c2 : ∀ (K2 : qs_S → Nat → Int32 → Int32 → Int32 → Prop), (∀ (S : qs_S) (a0 : Nat) (x1 : Int32) (x2 : Int32) (x3 : Int32) (H : Heap) (locs : List Loc) (ls : Array Slot), K2 S a0 x1 x2 x3 → qs_Gd g (qs_F g SA s.heap.size) s S H locs → lv_has ls 5 [(0, .ref a0), (1, .int x1), (2, .int x2), (3, .int x3)] → W p l e (headSpec wsX6_isTaken ({ frames := 3, cells := 0, slots := 0, locals := 64 } : Room)).room s m (([.ref a0z, .int x1z, .int x2z] : List Value)).toArray below meth c H locs 0 0 (MQ below (qs_Qi g (qs_F g SA s.heap.size) post) (([.ref a0z, .int x1z, .int x2z] : List Value)).toArray s 0 0 (qs_F g SA s.heap.size)) (F0 m 2 ls [])) → ∀ (S : qs_S) (a0 : Nat) (x1 : Int32) (x2 : Int32) (x3 : Int32) (H : Heap) (locs : List Loc) (ls : Array Slot), wp_X6_isTaken_c2 g.2.2.2.2.2.2.1 g.2.2.2.2.2.2.2 post K2 S a0 x1 x2 x3 → qs_Gd g (qs_F g SA s.heap.size) s S H locs → lv_has ls 5 [(0, .ref a0), (1, .int x1), (2, .int x2), (3, .int x3)] → W p l e (headSpec wsX6_isTaken ({ frames := 3, cells := 0, slots := 0, locals := 64 } : Room)).room s m (([.ref a0z, .int x1z, .int x2z] : List Value)).toArray below meth c H locs 0 0 (MQ below (qs_Qi g (qs_F g SA s.heap.size) post) (([.ref a0z, .int x1z, .int x2z] : List Value)).toArray s 0 0 (qs_F g SA s.heap.size)) (F0 m 2 ls []) := by
    intro K2 hK2 S a0 x1 x2 x3 H locs ls h hG hl
    unfold wp_X6_isTaken_c2 at h
    refine lv_iload_n hx hb dX6_isTaken_2 rfl (lv_at hl 3 rfl) ?_
    refine lv_aload_n hx hb dX6_isTaken_3 rfl (lv_at hl 0 rfl) ?_
    obtain ⟨⟨hL2, fK3⟩, h⟩ := h
    obtain ⟨q4, eq4, h⟩ := h
    refine qr_get (C := RX6) (T := TX6) (N := 8) (ci := 6) hx hb hts in6 hown hG hL2 fK3 (by decide) rfl 0 (by decide) rfl (hts (.fieldLink RX6 12 "QuayMesh" "allShips" "Ljava/util/ArrayList;") (List.mem_of_getElem? (i := 1) rfl)) (fun _ h9 => h9) (v := .ref q4) (qs_rf eq4) dX6_isTaken_4 ?_
    obtain ⟨⟨hL7, fK8⟩, h⟩ := h
    refine qc_i hG (va_runV (As := []) (rest := [.int x3]) ⟨hx, hb, hml, hown, hts⟩ (c_Jx4a65c_size_8abf5 l g _ S q4 h) (cwV 0 hts gX6_isTaken_Jx4a65c_size_8abf5 rfl rfl rfl (by decide +kernel) ⟨(Nat.le_of_ble_eq_true rfl), (Nat.le_of_ble_eq_true rfl)⟩) ⟨qs_Pc.blind _ _ _ _, hG.recv hL7 fK8 (by decide) rfl, hG.pre _⟩ rfl rfl hl.1 rfl (lv_room (Nat.le_of_ble_eq_true rfl)) dX6_isTaken_7 ⟨Nat.zero_le _, Nat.zero_le _⟩) (fun v10 S9 H locs h hG => ?_)
    refine lv_icmp_ge (tgt := 60) hx hb dX6_isTaken_10 (by decide) (fun c11 => ?_) (fun c11 => ?_)
    · have h := h.1 c11
      refine lv_iconst (v := (0 : Int32)) hx hb dX6_isTaken_60 (by decide +kernel) ?_
      exact qe_z hx hb hr hlk (Or.inl rfl) hG h (Nat.le_refl _) (Nat.le_refl _) dX6_isTaken_61
    · have h := h.2 c11
      refine lv_aload_n hx hb dX6_isTaken_13 rfl (lv_at hl 0 rfl) ?_
      obtain ⟨⟨hL12, fK13⟩, h⟩ := h
      obtain ⟨q14, eq14, h⟩ := h
      refine qr_get (C := RX6) (T := TX6) (N := 8) (ci := 6) hx hb hts in6 hown hG hL12 fK13 (by decide) rfl 0 (by decide) rfl (hts (.fieldLink RX6 12 "QuayMesh" "allShips" "Ljava/util/ArrayList;") (List.mem_of_getElem? (i := 1) rfl)) (fun _ h9 => h9) (v := .ref q14) (qs_rf eq14) dX6_isTaken_14 ?_
      refine lv_iload_n hx hb dX6_isTaken_17 rfl (lv_at hl 3 rfl) ?_
      obtain ⟨⟨hL17, fK18⟩, h⟩ := h
      refine qc_q hG (va_runV (As := [.int x3]) (rest := []) ⟨hx, hb, hml, hown, hts⟩ (c_Jx4a65c_get_915e3 l g _ S9 q14 x3 h) (cwV 1 hts gX6_isTaken_Jx4a65c_get_915e3 rfl rfl rfl (by decide +kernel) ⟨(Nat.le_of_ble_eq_true rfl), (Nat.le_of_ble_eq_true rfl)⟩) ⟨qs_Pc.blind _ _ _ _, hG.recv hL17 fK18 (by decide) rfl, hG.pre _⟩ rfl rfl hl.1 rfl (lv_room (Nat.le_of_ble_eq_true rfl)) dX6_isTaken_18 ⟨Nat.zero_le _, Nat.zero_le _⟩) (fun o20 S19 H locs h hG => ?_)
      obtain ⟨q21, rfl, h⟩ := h
      obtain ⟨⟨hL22, fK23⟩, h⟩ := h
      refine qr_cast (N := 3) hx hb hG hL22 fK23 (by decide) rfl hown (hts (.classLink RX6 75 "QuayMesh$Ship") (List.mem_of_getElem? (i := 2) rfl)) dX6_isTaken_21 ?_
      refine lv_astore (lv' := [(4, .ref q21), (0, .ref a0), (1, .int x1), (2, .int x2), (3, .int x3)]) hx hb dX6_isTaken_24 hl (by decide) rfl (fun ls hl => ?_)
      refine lv_aload hx hb dX6_isTaken_26 (lv_at hl 0 rfl) ?_
      refine qr_get (C := RX3) (T := TX3) (N := 3) (ci := 4) hx hb hts in4 hown hG hL22 fK23 (by decide) rfl 2 (by decide) rfl (hts (.fieldLink RX6 110 "QuayMesh$Ship" "hasLeft" "Z") (List.mem_of_getElem? (i := 3) rfl)) (fun _ h9 => h9) (v := .int (qs_I S19 2 q21)) rfl dX6_isTaken_28 ?_
      refine lv_topi (fun v24 ev24 => ?_)
      have h := h v24 ev24
      refine lv_if_ne (tgt := 54) hx hb dX6_isTaken_31 (by decide) (fun c25 => ?_) (fun c25 => ?_)
      · have h := h.1 c25
        exact b54 K2 hK2 S19 a0 x1 x2 x3 _ _ ls h hG (lv_sub hl [1, 2, 3, 4] rfl)
      · have h := h.2 c25
        refine lv_aload hx hb dX6_isTaken_34 (lv_at hl 0 rfl) ?_
        refine qr_get (C := RX3) (T := TX3) (N := 3) (ci := 4) hx hb hts in4 hown hG hL22 fK23 (by decide) rfl 0 (by decide) rfl (hts (.fieldLink RX6 82 "QuayMesh$Ship" "begin" "I") (List.mem_of_getElem? (i := 4) rfl)) (fun _ h9 => h9) (v := .int (qs_I S19 0 q21)) rfl dX6_isTaken_36 ?_
        refine lv_topi (fun v26 ev26 => ?_)
        have h := h v26 ev26
        refine lv_iload_n hx hb dX6_isTaken_39 rfl (lv_at hl 3 rfl) ?_
        refine lv_icmp_ge (tgt := 54) hx hb dX6_isTaken_40 (by decide) (fun c27 => ?_) (fun c27 => ?_)
        · have h := h.1 c27
          exact b54 K2 hK2 S19 a0 x1 x2 x3 _ _ ls h hG (lv_sub hl [1, 2, 3, 4] rfl)
        · have h := h.2 c27
          refine lv_iload_n hx hb dX6_isTaken_43 rfl (lv_at hl 2 rfl) ?_
          refine lv_aload hx hb dX6_isTaken_44 (lv_at hl 0 rfl) ?_
          refine qr_get (C := RX3) (T := TX3) (N := 3) (ci := 4) hx hb hts in4 hown hG hL22 fK23 (by decide) rfl 1 (by decide) rfl (hts (.fieldLink RX6 85 "QuayMesh$Ship" "end" "I") (List.mem_of_getElem? (i := 5) rfl)) (fun _ h9 => h9) (v := .int (qs_I S19 1 q21)) rfl dX6_isTaken_46 ?_
          refine lv_topi (fun v28 ev28 => ?_)
          have h := h v28 ev28
          refine lv_icmp_ge (tgt := 54) hx hb dX6_isTaken_49 (by decide) (fun c29 => ?_) (fun c29 => ?_)
          · have h := h.1 c29
            exact b54 K2 hK2 S19 a0 x1 x2 x3 _ _ ls h hG (lv_sub hl [1, 2, 3, 4] rfl)
          · have h := h.2 c29
            refine lv_iconst (v := (1 : Int32)) hx hb dX6_isTaken_52 (by decide +kernel) ?_
            exact qe_z hx hb hr hlk (Or.inr rfl) hG h (Nat.le_refl _) (Nat.le_refl _) dX6_isTaken_53
  have b2 : ∀ n9 : Nat, ∀ (S : qs_S) (a0 : Nat) (x1 : Int32) (x2 : Int32) (x3 : Int32) (H : Heap) (locs : List Loc) (ls : Array Slot), wp_X6_isTaken_b2 g.2.2.2.2.2.2.1 g.2.2.2.2.2.2.2 post n9 S a0 x1 x2 x3 → qs_Gd g (qs_F g SA s.heap.size) s S H locs → lv_has ls 5 [(0, .ref a0), (1, .int x1), (2, .int x2), (3, .int x3)] → W p l e (headSpec wsX6_isTaken ({ frames := 3, cells := 0, slots := 0, locals := 64 } : Room)).room s m (([.ref a0z, .int x1z, .int x2z] : List Value)).toArray below meth c H locs 0 0 (MQ below (qs_Qi g (qs_F g SA s.heap.size) post) (([.ref a0z, .int x1z, .int x2z] : List Value)).toArray s 0 0 (qs_F g SA s.heap.size)) (F0 m 2 ls []) := by
    intro n9
    induction n9 with
    | zero =>
      intro S a0 x1 x2 x3 H locs ls h hG hl
      exact False.elim h
    | succ n9 ih => exact c2 _ ih
  have hl := lv_entry ([.ref a0z, .int x1z, .int x2z]) (n := 5) (Nat.le_of_ble_eq_true rfl)
  rw [lg_entry_eq]
  generalize (lg_sl ([.ref a0z, .int x1z, .int x2z]) ++ List.replicate (5 - (lg_sl ([.ref a0z, .int x1z, .int x2z])).length) Slot.unset).toArray = ls at hl ⊢
  have hl : lv_has ls 5 [(0, .ref a0z), (1, .int x1z), (2, .int x2z)] := hl
  unfold wp_X6_isTaken at h
  refine lv_iconst (v := (0 : Int32)) hx hb dX6_isTaken_0 (by decide +kernel) ?_
  refine lv_istore_n (lv' := [(3, .int (0 : Int32)), (0, .ref a0z), (1, .int x1z), (2, .int x2z)]) hx hb dX6_isTaken_1 rfl hl (by decide) rfl (fun ls hl => ?_)
  obtain ⟨n30, h⟩ := h
  exact b2 n30 SA a0z x1z x2z (0 : Int32) _ _ ls h hG (lv_sub hl [1, 2, 3, 0] rfl)
def wp_X6_init_c114 (t0 m9 : Nat) (mc ms : Nat) (post : qs_S → Prop) (K114 : Nat → Nat → qs_S → Nat → Int32 → Prop) (k n : Nat) (S : qs_S) (a0 : Nat) (x1 : Int32) : Prop := ((4 : Int32) ≤ x1 → (post S)) ∧ (¬ (4 : Int32) ≤ x1 → ((a0 ∈ qs_L S ∧ qs_K S a0 = 6) ∧ (∃ q4 : Nat, qs_R S 5 a0 = some q4 ∧ ((k + 1 ≤ mc ∧ n + 8 ≤ ms) ∧ (∀ q5 : Nat, q5 ∉ qs_L S → q5 ≠ t0 → ∀ v12 : Int32, v12 = (4 : Int32) + x1 → ∃ mck13 msk13 : Nat, (k + 1 + mck13 ≤ mc ∧ n + 8 + msk13 ≤ ms) ∧ (wp_X4_init t0 m9 mck13 msk13 (fun (S15 : qs_S) => (q4 ∈ qs_L S15 ∧ qs_K S15 q4 = 0) ∧ (∃ mck16 msk16 : Nat, (k + 1 + mck13 + mck16 ≤ mc ∧ n + 8 + msk13 + msk16 ≤ ms) ∧ (wp_Jx4a65c_add_9ea2d t0 m9 mck16 msk16 (fun (v21 : Int32) (S20 : qs_S) => ∀ v22 : Int32, v22 = x1 + 1 → K114 (k + 1 + mck13 + mck16) (n + 8 + msk13 + msk16) S20 a0 v22) S15 q4 q5))) (qs_nw S q5 5) q5 v12))))))
def wp_X6_init_b114 (t0 m9 : Nat) (mc ms : Nat) (post : qs_S → Prop) : Nat → Nat → Nat → qs_S → Nat → Int32 → Prop
  | 0 => fun _ _ _ _ _ => False
  | n9 + 1 => wp_X6_init_c114 t0 m9 mc ms post (wp_X6_init_b114 t0 m9 mc ms post n9)
def wp_X6_init_c82 (t0 m9 : Nat) (mc ms : Nat) (post : qs_S → Prop) (K82 : Nat → Nat → qs_S → Nat → Int32 → Prop) (k n : Nat) (S : qs_S) (a0 : Nat) (x1 : Int32) : Prop := ((4 : Int32) ≤ x1 → (∃ n24 : Nat, wp_X6_init_b114 t0 m9 mc ms post n24 k n S a0 (0 : Int32))) ∧ (¬ (4 : Int32) ≤ x1 → ((a0 ∈ qs_L S ∧ qs_K S a0 = 6) ∧ (∃ q27 : Nat, qs_R S 4 a0 = some q27 ∧ ((k + 1 ≤ mc ∧ n + 8 ≤ ms) ∧ (∀ q28 : Nat, q28 ∉ qs_L S → q28 ≠ t0 → ∀ v35 : Int32, v35 = x1 * (5 : Int32) → ∃ mck36 msk36 : Nat, (k + 1 + mck36 ≤ mc ∧ n + 8 + msk36 ≤ ms) ∧ (wp_X1_init t0 m9 mck36 msk36 (fun (S38 : qs_S) => (q27 ∈ qs_L S38 ∧ qs_K S38 q27 = 0) ∧ (∃ mck39 msk39 : Nat, (k + 1 + mck36 + mck39 ≤ mc ∧ n + 8 + msk36 + msk39 ≤ ms) ∧ (wp_Jx4a65c_add_9ea2d t0 m9 mck39 msk39 (fun (v44 : Int32) (S43 : qs_S) => ∀ v45 : Int32, v45 = x1 + 1 → K82 (k + 1 + mck36 + mck39) (n + 8 + msk36 + msk39) S43 a0 v45) S38 q27 q28))) (qs_nw S q28 2) q28 x1 v35))))))
def wp_X6_init_b82 (t0 m9 : Nat) (mc ms : Nat) (post : qs_S → Prop) : Nat → Nat → Nat → qs_S → Nat → Int32 → Prop
  | 0 => fun _ _ _ _ _ => False
  | n9 + 1 => wp_X6_init_c82 t0 m9 mc ms post (wp_X6_init_b82 t0 m9 mc ms post n9)
def wp_X6_init (t0 m9 : Nat) (mc ms : Nat) (post : qs_S → Prop) (SA : qs_S) (a0z : Nat) : Prop := (0 + 1 ≤ mc ∧ 0 + 3 ≤ ms) ∧ (∀ q46 : Nat, q46 ∉ qs_L SA → q46 ≠ t0 → wp_Jx4a65c_init_da8c8 t0 m9 (fun (S53 : qs_S) => (a0z ∈ qs_L S53 ∧ qs_K S53 a0z = 6) ∧ ((1 + 1 ≤ mc ∧ 3 + 3 ≤ ms) ∧ (∀ q56 : Nat, q56 ∉ qs_L (qs_wR S53 0 a0z (some q46)) → q56 ≠ t0 → wp_Jx4a65c_init_da8c8 t0 m9 (fun (S65 : qs_S) => (a0z ∈ qs_L S65 ∧ qs_K S65 a0z = 6) ∧ ((2 + 1 ≤ mc ∧ 6 + 3 ≤ ms) ∧ (∀ q68 : Nat, q68 ∉ qs_L (qs_wR S65 1 a0z (some q56)) → q68 ≠ t0 → wp_Jx4a65c_init_da8c8 t0 m9 (fun (S77 : qs_S) => (a0z ∈ qs_L S77 ∧ qs_K S77 a0z = 6) ∧ ((3 + 1 ≤ mc ∧ 9 + 3 ≤ ms) ∧ (∀ q80 : Nat, q80 ∉ qs_L (qs_wR S77 2 a0z (some q68)) → q80 ≠ t0 → wp_Jx4a65c_init_da8c8 t0 m9 (fun (S89 : qs_S) => (a0z ∈ qs_L S89 ∧ qs_K S89 a0z = 6) ∧ ((4 + 1 ≤ mc ∧ 12 + 3 ≤ ms) ∧ (∀ q92 : Nat, q92 ∉ qs_L (qs_wR S89 3 a0z (some q80)) → q92 ≠ t0 → wp_Jx4a65c_init_da8c8 t0 m9 (fun (S101 : qs_S) => (a0z ∈ qs_L S101 ∧ qs_K S101 a0z = 6) ∧ ((5 + 1 ≤ mc ∧ 15 + 3 ≤ ms) ∧ (∀ q104 : Nat, q104 ∉ qs_L (qs_wR S101 4 a0z (some q92)) → q104 ≠ t0 → wp_Jx4a65c_init_da8c8 t0 m9 (fun (S113 : qs_S) => (a0z ∈ qs_L S113 ∧ qs_K S113 a0z = 6) ∧ (∃ n116 : Nat, wp_X6_init_b82 t0 m9 mc ms post n116 6 18 (qs_wI (qs_wI (qs_wR S113 5 a0z (some q104)) 6 a0z (0 : Int32)) 7 a0z (0 : Int32)) a0z (0 : Int32))) (qs_nw (qs_wR S101 4 a0z (some q92)) q104 0) q104))) (qs_nw (qs_wR S89 3 a0z (some q80)) q92 0) q92))) (qs_nw (qs_wR S77 2 a0z (some q68)) q80 0) q80))) (qs_nw (qs_wR S65 1 a0z (some q56)) q68 0) q68))) (qs_nw (qs_wR S53 0 a0z (some q46)) q56 0) q56))) (qs_nw SA q46 0) q46)
set_option maxHeartbeats 4000000 in
set_option maxRecDepth 100000 in
theorem c_X6_init (l : Launch) (g : qs_G) (sz : Nat) (SA : qs_S) (a0z : Nat) {mc ms : Nat} {post : qs_S → Prop} (h : wp_X6_init g.2.2.2.2.2.2.1 g.2.2.2.2.2.2.2 mc ms post SA a0z) : Met l yX6_init wsX6_init ({ frames := 7, cells := mc, slots := ms, locals := 191 } : Room) (qs_Pc g sz SA [.ref a0z]) (qs_Qv g (qs_F g SA sz) post) mc ms (qs_F g SA sz) := by
  refine Met.ofW (cc := cX6_init) (maxL := 2) (ret := none) (by decide +kernel) rfl ?_
  intro p e s m args below meth c s₁ B hml hv
  obtain ⟨rfl, hsz, hG⟩ := qs_Gd.start hv
  subst hsz
  have hx := B.exec
  have hb := B.bytes
  have hr := B.returns
  have hts := atoms_spec (ws := wsX6_init) B.pre
  have hown : s.vm.findClass RX6 = some m.cls := findClass_of_methodNamed B.named
  have hlk := B.notSynchronized
  have hin9 : meth.name = "<init>" := (name_of_methodNamed B.named B.method).1
  have in0 : ∀ w ∈ u_ws RJx4a65c TJx4a65c 3, w ∈ wsX6_init := fun w h => List.mem_cons_of_mem _ (List.mem_append_left _ (List.mem_append_left _ (List.mem_append_left _ (List.mem_append_right _ (h)))))
  have in2 : ∀ w ∈ u_ws RX1 TX1 8, w ∈ wsX6_init := fun w h => List.mem_cons_of_mem _ (List.mem_append_left _ (List.mem_append_right _ (h)))
  have in5 : ∀ w ∈ u_ws RX4 TX4 8, w ∈ wsX6_init := fun w h => List.mem_cons_of_mem _ (List.mem_append_right _ (h))
  have in6 : ∀ w ∈ u_ws RX6 TX6 8, w ∈ wsX6_init := fun w h => List.mem_cons_of_mem _ (List.mem_append_left _ (List.mem_append_left _ (List.mem_append_right _ (h))))
  have hkc : 0 ≤ mc := Nat.zero_le _
  have hks : 0 ≤ ms := Nat.zero_le _
  have hmR : mc ≤ (headSpec wsX6_init ({ frames := 7, cells := mc, slots := ms, locals := 191 } : Room)).room.cells := Nat.le_refl _
  have hsR : ms ≤ (headSpec wsX6_init ({ frames := 7, cells := mc, slots := ms, locals := 191 } : Room)).room.slots := Nat.le_refl _
  have c114 : ∀ (K114 : Nat → Nat → qs_S → Nat → Int32 → Prop), (∀ (S : qs_S) (a0 : Nat) (x1 : Int32) (H : Heap) (locs : List Loc) (k n : Nat) (ls : Array Slot), k ≤ mc → n ≤ ms → K114 k n S a0 x1 → qs_Gd g (qs_F g SA s.heap.size) s S H locs → lv_has ls 2 [(0, .ref a0), (1, .int x1)] → W p l e (headSpec wsX6_init ({ frames := 7, cells := mc, slots := ms, locals := 191 } : Room)).room s m (([.ref a0z] : List Value)).toArray below meth c H locs k n (MQ below (qs_Qv g (qs_F g SA s.heap.size) post) (([.ref a0z] : List Value)).toArray s mc ms (qs_F g SA s.heap.size)) (F0 m 114 ls [])) → ∀ (S : qs_S) (a0 : Nat) (x1 : Int32) (H : Heap) (locs : List Loc) (k n : Nat) (ls : Array Slot), k ≤ mc → n ≤ ms → wp_X6_init_c114 g.2.2.2.2.2.2.1 g.2.2.2.2.2.2.2 mc ms post K114 k n S a0 x1 → qs_Gd g (qs_F g SA s.heap.size) s S H locs → lv_has ls 2 [(0, .ref a0), (1, .int x1)] → W p l e (headSpec wsX6_init ({ frames := 7, cells := mc, slots := ms, locals := 191 } : Room)).room s m (([.ref a0z] : List Value)).toArray below meth c H locs k n (MQ below (qs_Qv g (qs_F g SA s.heap.size) post) (([.ref a0z] : List Value)).toArray s mc ms (qs_F g SA s.heap.size)) (F0 m 114 ls []) := by
    intro K114 hK114 S a0 x1 H locs k n ls hkc hks h hG hl
    unfold wp_X6_init_c114 at h
    refine lv_iload_n hx hb dX6_init_114 rfl (lv_at hl 1 rfl) ?_
    refine lv_iconst (v := (4 : Int32)) hx hb dX6_init_115 (by decide +kernel) ?_
    refine lv_icmp_ge (tgt := 143) hx hb dX6_init_116 (by decide) (fun c1 => ?_) (fun c1 => ?_)
    · have h := h.1 c1
      exact qe_v hx hb hr hlk hG h hkc hks dX6_init_143
    · have h := h.2 c1
      refine lv_aload_n hx hb dX6_init_119 rfl (lv_at hl 0 rfl) ?_
      obtain ⟨⟨hL2, fK3⟩, h⟩ := h
      obtain ⟨q4, eq4, h⟩ := h
      refine qr_get (C := RX6) (T := TX6) (N := 8) (ci := 6) hx hb hts in6 hown hG hL2 fK3 (by decide) rfl 5 (by decide) rfl (hts (.fieldLink RX6 28 "QuayMesh" "trucks" "Ljava/util/ArrayList;") (List.mem_of_getElem? (i := 12) rfl)) (fun _ h9 => h9) (v := .ref q4) (qs_rf eq4) dX6_init_120 ?_
      obtain ⟨⟨hs6c, hs6s⟩, h⟩ := h
      refine qr_new (C := RX4) (T := TX4) (N := 8) (ci := 5) hx hb hts in5 tyX4 tyX4_ok hown (hts (.classLink RX6 47 RX4) (List.mem_of_getElem? (i := 18) rfl)) (hts (.instantiable RX4 8) (List.mem_of_getElem? (i := 19) rfl)) (hts (.initialized RX4) (List.mem_of_getElem? (i := 20) rfl)) hG (by decide) rfl hf9_5 (Nat.le_trans hs6c hmR) (Nat.le_trans hs6s hsR) dX6_init_123 (fun q5 H hq7 hq7t hG => ?_)
      have hkc := hs6c
      have hks := hs6s
      have h := h q5 hq7 hq7t
      have hL8 := qs_nwL (S := S) (q := q5) (ci := 5) hL2
      have fK9 := qs_nwK (S := S) (q := q5) (ci := 5) hq7 hL2 fK3
      have hL10 := qs_nwN (S := S) (q := q5) (ci := 5)
      have fK11 := qs_nwM (S := S) (q := q5) (ci := 5)
      refine lv_dup hx hb dX6_init_126 rfl ?_
      refine lv_iconst (v := (4 : Int32)) hx hb dX6_init_127 (by decide +kernel) ?_
      refine lv_iload_n hx hb dX6_init_128 rfl (lv_at hl 1 rfl) ?_
      refine lv_iadd hx hb dX6_init_129 ?_
      refine lv_topi (fun v12 ev12 => ?_)
      have h := h v12 ev12
      obtain ⟨mck13, msk13, ⟨hs14c, hs14s⟩, h⟩ := h
      refine qc_v hG (va_runI (As := [.int v12]) (rest := [.ref q5, .ref q4]) ⟨hx, hb, hml, hown, hts⟩ (c_X4_init l g _ (qs_nw S q5 5) q5 v12 h) (cwI 1 hts gX6_init_X4_init rfl rfl rfl (hts (.initialized RX4) (List.mem_of_getElem? (i := 20) rfl)) (hts (.methodLink RX6 49 yX4_init) (List.mem_of_getElem? (i := 107) rfl)) (hts (.instanceMethod yX4_init) (List.mem_of_getElem? (i := 108) rfl)) rfl (by decide +kernel) ⟨(Nat.le_of_ble_eq_true rfl), (Nat.le_of_ble_eq_true rfl)⟩) ⟨qs_Pc.blind _ _ _ _, hG.pre _⟩ rfl rfl hl.1 rfl (lv_room (Nat.le_of_ble_eq_true rfl)) dX6_init_130 ⟨Nat.le_trans hs14c hmR, Nat.le_trans hs14s hsR⟩) (fun S15 H locs h hG => ?_)
      have hkc := hs14c
      have hks := hs14s
      obtain ⟨⟨hL18, fK19⟩, h⟩ := h
      obtain ⟨mck16, msk16, ⟨hs17c, hs17s⟩, h⟩ := h
      refine qc_i hG (va_runV (As := [.ref q5]) (rest := []) ⟨hx, hb, hml, hown, hts⟩ (c_Jx4a65c_add_9ea2d l g _ S15 q4 q5 h) (cwV 1 hts gX6_init_Jx4a65c_add_9ea2d rfl rfl rfl (by decide +kernel) ⟨(Nat.le_of_ble_eq_true rfl), (Nat.le_of_ble_eq_true rfl)⟩) ⟨qs_Pc.blind _ _ _ _, hG.recv hL18 fK19 (by decide) rfl, hG.pre _⟩ rfl rfl hl.1 rfl (lv_room (Nat.le_of_ble_eq_true rfl)) dX6_init_133 ⟨Nat.le_trans hs17c hmR, Nat.le_trans hs17s hsR⟩) (fun v21 S20 H locs h hG => ?_)
      have hkc := hs17c
      have hks := hs17s
      refine lv_pop hx hb dX6_init_136 rfl ?_
      obtain ⟨v22, ev22⟩ : ∃ y : Int32, y = x1 + 1 := ⟨_, rfl⟩
      have h := h v22 ev22
      refine lv_iinc (v := v22) (lv' := [(1, .int v22), (0, .ref a0)]) hx hb dX6_init_137 hl (k := 1) rfl (by rw [ev22]; rfl) (by decide) rfl (fun ls hl => ?_)
      refine lv_goto (tgt := 114) hx hb dX6_init_140 (by decide) ?_
      exact hK114 S20 a0 v22 _ _ (k + 1 + mck13 + mck16) (n + 8 + msk13 + msk16) ls hkc hks h hG (lv_sub hl [1, 0] rfl)
  have b114 : ∀ n9 : Nat, ∀ (S : qs_S) (a0 : Nat) (x1 : Int32) (H : Heap) (locs : List Loc) (k n : Nat) (ls : Array Slot), k ≤ mc → n ≤ ms → wp_X6_init_b114 g.2.2.2.2.2.2.1 g.2.2.2.2.2.2.2 mc ms post n9 k n S a0 x1 → qs_Gd g (qs_F g SA s.heap.size) s S H locs → lv_has ls 2 [(0, .ref a0), (1, .int x1)] → W p l e (headSpec wsX6_init ({ frames := 7, cells := mc, slots := ms, locals := 191 } : Room)).room s m (([.ref a0z] : List Value)).toArray below meth c H locs k n (MQ below (qs_Qv g (qs_F g SA s.heap.size) post) (([.ref a0z] : List Value)).toArray s mc ms (qs_F g SA s.heap.size)) (F0 m 114 ls []) := by
    intro n9
    induction n9 with
    | zero =>
      intro S a0 x1 H locs k n ls hkc hks h hG hl
      exact False.elim h
    | succ n9 ih => exact c114 _ ih
  have c82 : ∀ (K82 : Nat → Nat → qs_S → Nat → Int32 → Prop), (∀ (S : qs_S) (a0 : Nat) (x1 : Int32) (H : Heap) (locs : List Loc) (k n : Nat) (ls : Array Slot), k ≤ mc → n ≤ ms → K82 k n S a0 x1 → qs_Gd g (qs_F g SA s.heap.size) s S H locs → lv_has ls 2 [(0, .ref a0), (1, .int x1)] → W p l e (headSpec wsX6_init ({ frames := 7, cells := mc, slots := ms, locals := 191 } : Room)).room s m (([.ref a0z] : List Value)).toArray below meth c H locs k n (MQ below (qs_Qv g (qs_F g SA s.heap.size) post) (([.ref a0z] : List Value)).toArray s mc ms (qs_F g SA s.heap.size)) (F0 m 82 ls [])) → ∀ (S : qs_S) (a0 : Nat) (x1 : Int32) (H : Heap) (locs : List Loc) (k n : Nat) (ls : Array Slot), k ≤ mc → n ≤ ms → wp_X6_init_c82 g.2.2.2.2.2.2.1 g.2.2.2.2.2.2.2 mc ms post K82 k n S a0 x1 → qs_Gd g (qs_F g SA s.heap.size) s S H locs → lv_has ls 2 [(0, .ref a0), (1, .int x1)] → W p l e (headSpec wsX6_init ({ frames := 7, cells := mc, slots := ms, locals := 191 } : Room)).room s m (([.ref a0z] : List Value)).toArray below meth c H locs k n (MQ below (qs_Qv g (qs_F g SA s.heap.size) post) (([.ref a0z] : List Value)).toArray s mc ms (qs_F g SA s.heap.size)) (F0 m 82 ls []) := by
    intro K82 hK82 S a0 x1 H locs k n ls hkc hks h hG hl
    unfold wp_X6_init_c82 at h
    refine lv_iload_n hx hb dX6_init_82 rfl (lv_at hl 1 rfl) ?_
    refine lv_iconst (v := (4 : Int32)) hx hb dX6_init_83 (by decide +kernel) ?_
    refine lv_icmp_ge (tgt := 112) hx hb dX6_init_84 (by decide) (fun c23 => ?_) (fun c23 => ?_)
    · have h := h.1 c23
      refine lv_iconst (v := (0 : Int32)) hx hb dX6_init_112 (by decide +kernel) ?_
      refine lv_istore_n (lv' := [(1, .int (0 : Int32)), (0, .ref a0)]) hx hb dX6_init_113 rfl hl (by decide) rfl (fun ls hl => ?_)
      obtain ⟨n24, h⟩ := h
      exact b114 n24 S a0 (0 : Int32) _ _ k n ls hkc hks h hG (lv_sub hl [1, 0] rfl)
    · have h := h.2 c23
      refine lv_aload_n hx hb dX6_init_87 rfl (lv_at hl 0 rfl) ?_
      obtain ⟨⟨hL25, fK26⟩, h⟩ := h
      obtain ⟨q27, eq27, h⟩ := h
      refine qr_get (C := RX6) (T := TX6) (N := 8) (ci := 6) hx hb hts in6 hown hG hL25 fK26 (by decide) rfl 4 (by decide) rfl (hts (.fieldLink RX6 25 "QuayMesh" "cranes" "Ljava/util/ArrayList;") (List.mem_of_getElem? (i := 11) rfl)) (fun _ h9 => h9) (v := .ref q27) (qs_rf eq27) dX6_init_88 ?_
      obtain ⟨⟨hs29c, hs29s⟩, h⟩ := h
      refine qr_new (C := RX1) (T := TX1) (N := 8) (ci := 2) hx hb hts in2 tyX1 tyX1_ok hown (hts (.classLink RX6 38 RX1) (List.mem_of_getElem? (i := 15) rfl)) (hts (.instantiable RX1 8) (List.mem_of_getElem? (i := 16) rfl)) (hts (.initialized RX1) (List.mem_of_getElem? (i := 17) rfl)) hG (by decide) rfl hf9_2 (Nat.le_trans hs29c hmR) (Nat.le_trans hs29s hsR) dX6_init_91 (fun q28 H hq30 hq30t hG => ?_)
      have hkc := hs29c
      have hks := hs29s
      have h := h q28 hq30 hq30t
      have hL31 := qs_nwL (S := S) (q := q28) (ci := 2) hL25
      have fK32 := qs_nwK (S := S) (q := q28) (ci := 2) hq30 hL25 fK26
      have hL33 := qs_nwN (S := S) (q := q28) (ci := 2)
      have fK34 := qs_nwM (S := S) (q := q28) (ci := 2)
      refine lv_dup hx hb dX6_init_94 rfl ?_
      refine lv_iload_n hx hb dX6_init_95 rfl (lv_at hl 1 rfl) ?_
      refine lv_iload_n hx hb dX6_init_96 rfl (lv_at hl 1 rfl) ?_
      refine lv_iconst (v := (5 : Int32)) hx hb dX6_init_97 (by decide +kernel) ?_
      refine lv_imul hx hb dX6_init_98 ?_
      refine lv_topi (fun v35 ev35 => ?_)
      have h := h v35 ev35
      obtain ⟨mck36, msk36, ⟨hs37c, hs37s⟩, h⟩ := h
      refine qc_v hG (va_runI (As := [.int x1, .int v35]) (rest := [.ref q28, .ref q27]) ⟨hx, hb, hml, hown, hts⟩ (c_X1_init l g _ (qs_nw S q28 2) q28 x1 v35 h) (cwI 2 hts gX6_init_X1_init rfl rfl rfl (hts (.initialized RX1) (List.mem_of_getElem? (i := 17) rfl)) (hts (.methodLink RX6 40 yX1_init) (List.mem_of_getElem? (i := 36) rfl)) (hts (.instanceMethod yX1_init) (List.mem_of_getElem? (i := 37) rfl)) rfl (by decide +kernel) ⟨(Nat.le_of_ble_eq_true rfl), (Nat.le_of_ble_eq_true rfl)⟩) ⟨qs_Pc.blind _ _ _ _, hG.pre _⟩ rfl rfl hl.1 rfl (lv_room (Nat.le_of_ble_eq_true rfl)) dX6_init_99 ⟨Nat.le_trans hs37c hmR, Nat.le_trans hs37s hsR⟩) (fun S38 H locs h hG => ?_)
      have hkc := hs37c
      have hks := hs37s
      obtain ⟨⟨hL41, fK42⟩, h⟩ := h
      obtain ⟨mck39, msk39, ⟨hs40c, hs40s⟩, h⟩ := h
      refine qc_i hG (va_runV (As := [.ref q28]) (rest := []) ⟨hx, hb, hml, hown, hts⟩ (c_Jx4a65c_add_9ea2d l g _ S38 q27 q28 h) (cwV 1 hts gX6_init_Jx4a65c_add_9ea2d rfl rfl rfl (by decide +kernel) ⟨(Nat.le_of_ble_eq_true rfl), (Nat.le_of_ble_eq_true rfl)⟩) ⟨qs_Pc.blind _ _ _ _, hG.recv hL41 fK42 (by decide) rfl, hG.pre _⟩ rfl rfl hl.1 rfl (lv_room (Nat.le_of_ble_eq_true rfl)) dX6_init_102 ⟨Nat.le_trans hs40c hmR, Nat.le_trans hs40s hsR⟩) (fun v44 S43 H locs h hG => ?_)
      have hkc := hs40c
      have hks := hs40s
      refine lv_pop hx hb dX6_init_105 rfl ?_
      obtain ⟨v45, ev45⟩ : ∃ y : Int32, y = x1 + 1 := ⟨_, rfl⟩
      have h := h v45 ev45
      refine lv_iinc (v := v45) (lv' := [(1, .int v45), (0, .ref a0)]) hx hb dX6_init_106 hl (k := 1) rfl (by rw [ev45]; rfl) (by decide) rfl (fun ls hl => ?_)
      refine lv_goto (tgt := 82) hx hb dX6_init_109 (by decide) ?_
      exact hK82 S43 a0 v45 _ _ (k + 1 + mck36 + mck39) (n + 8 + msk36 + msk39) ls hkc hks h hG (lv_sub hl [1, 0] rfl)
  have b82 : ∀ n9 : Nat, ∀ (S : qs_S) (a0 : Nat) (x1 : Int32) (H : Heap) (locs : List Loc) (k n : Nat) (ls : Array Slot), k ≤ mc → n ≤ ms → wp_X6_init_b82 g.2.2.2.2.2.2.1 g.2.2.2.2.2.2.2 mc ms post n9 k n S a0 x1 → qs_Gd g (qs_F g SA s.heap.size) s S H locs → lv_has ls 2 [(0, .ref a0), (1, .int x1)] → W p l e (headSpec wsX6_init ({ frames := 7, cells := mc, slots := ms, locals := 191 } : Room)).room s m (([.ref a0z] : List Value)).toArray below meth c H locs k n (MQ below (qs_Qv g (qs_F g SA s.heap.size) post) (([.ref a0z] : List Value)).toArray s mc ms (qs_F g SA s.heap.size)) (F0 m 82 ls []) := by
    intro n9
    induction n9 with
    | zero =>
      intro S a0 x1 H locs k n ls hkc hks h hG hl
      exact False.elim h
    | succ n9 ih => exact c82 _ ih
  have hl := lv_entry ([.ref a0z]) (n := 2) (Nat.le_of_ble_eq_true rfl)
  rw [lg_entry_eq]
  generalize (lg_sl ([.ref a0z]) ++ List.replicate (2 - (lg_sl ([.ref a0z])).length) Slot.unset).toArray = ls at hl ⊢
  have hl : lv_has ls 2 [(0, .ref a0z)] := hl
  unfold wp_X6_init at h
  refine lv_aload_n hx hb dX6_init_0 rfl (lv_at hl 0 rfl) ?_
  refine W.objInit hx hb hown (hts (.methodLink RX6 3 objectInit) (List.mem_of_getElem? (i := 1) rfl)) (hts (.instanceMethod objectInit) (List.mem_of_getElem? (i := 2) rfl)) (hts (.code objectInit ⟨#[0xb1]⟩ 1 none) (List.mem_of_getElem? (i := 3) rfl)) rfl (hl.1.trans hml.symm) rfl dX6_init_1 (Nat.le_of_ble_eq_true rfl) (Nat.le_of_ble_eq_true rfl) ?_
  refine W.eq (g2 := F0 m 4 ls []) rfl ?_
  refine lv_aload_n hx hb dX6_init_4 rfl (lv_at hl 0 rfl) ?_
  obtain ⟨⟨hs47c, hs47s⟩, h⟩ := h
  refine qr_new (C := RJx4a65c) (T := TJx4a65c) (N := 3) (ci := 0) hx hb hts in0 tyJx4a65c tyJx4a65c_ok hown (hts (.classLink RX6 9 RJx4a65c) (List.mem_of_getElem? (i := 4) rfl)) (hts (.instantiable RJx4a65c 3) (List.mem_of_getElem? (i := 5) rfl)) (hts (.initialized RJx4a65c) (List.mem_of_getElem? (i := 6) rfl)) hG (by decide) rfl hf9_0 (Nat.le_trans hs47c hmR) (Nat.le_trans hs47s hsR) dX6_init_5 (fun q46 H hq48 hq48t hG => ?_)
  have hkc := hs47c
  have hks := hs47s
  have h := h q46 hq48 hq48t
  have hL49 := qs_nwN (S := SA) (q := q46) (ci := 0)
  have fK50 := qs_nwM (S := SA) (q := q46) (ci := 0)
  refine lv_dup hx hb dX6_init_8 rfl ?_
  refine qc_v hG (va_runI (As := []) (rest := [.ref q46, .ref a0z]) ⟨hx, hb, hml, hown, hts⟩ (c_Jx4a65c_init_da8c8 l g _ (qs_nw SA q46 0) q46 h) (cwI 0 hts gX6_init_Jx4a65c_init_da8c8 rfl rfl rfl (hts (.initialized RJx4a65c) (List.mem_of_getElem? (i := 6) rfl)) (hts (.methodLink RX6 11 yJx4a65c_init_da8c8) (List.mem_of_getElem? (i := 21) rfl)) (hts (.instanceMethod yJx4a65c_init_da8c8) (List.mem_of_getElem? (i := 22) rfl)) rfl (by decide +kernel) ⟨(Nat.le_of_ble_eq_true rfl), (Nat.le_of_ble_eq_true rfl)⟩) ⟨qs_Pc.blind _ _ _ _, hG.pre _⟩ rfl rfl hl.1 rfl (lv_room (Nat.le_of_ble_eq_true rfl)) dX6_init_9 ⟨Nat.le_trans hkc hmR, Nat.le_trans hks hsR⟩) (fun S53 H locs h hG => ?_)
  obtain ⟨⟨hL54, fK55⟩, h⟩ := h
  refine qr_putRF (C := RX6) (T := TX6) (N := 8) (ci := 6) hx hb hts in6 tyX6 tyX6_ok nmX6 hown hG hL54 fK55 (by decide) rfl 0 (by decide) rfl (hts (.fieldLink RX6 12 "QuayMesh" "allShips" "Ljava/util/ArrayList;") (List.mem_of_getElem? (i := 7) rfl)) (fun _ h9 => h9) rfl hin9 rfl (x := some q46) rfl (tyX6_ok 0 (by decide)) rfl rfl dX6_init_12 (fun H locs hG => ?_)
  refine lv_aload_n hx hb dX6_init_15 rfl (lv_at hl 0 rfl) ?_
  obtain ⟨⟨hs57c, hs57s⟩, h⟩ := h
  refine qr_new (C := RJx4a65c) (T := TJx4a65c) (N := 3) (ci := 0) hx hb hts in0 tyJx4a65c tyJx4a65c_ok hown (hts (.classLink RX6 9 RJx4a65c) (List.mem_of_getElem? (i := 4) rfl)) (hts (.instantiable RJx4a65c 3) (List.mem_of_getElem? (i := 5) rfl)) (hts (.initialized RJx4a65c) (List.mem_of_getElem? (i := 6) rfl)) hG (by decide) rfl hf9_0 (Nat.le_trans hs57c hmR) (Nat.le_trans hs57s hsR) dX6_init_16 (fun q56 H hq58 hq58t hG => ?_)
  have hkc := hs57c
  have hks := hs57s
  have h := h q56 hq58 hq58t
  have hL59 := qs_nwL (S := (qs_wR S53 0 a0z (some q46))) (q := q56) (ci := 0) hL54
  have fK60 := qs_nwK (S := (qs_wR S53 0 a0z (some q46))) (q := q56) (ci := 0) hq58 hL54 fK55
  have hL61 := qs_nwN (S := (qs_wR S53 0 a0z (some q46))) (q := q56) (ci := 0)
  have fK62 := qs_nwM (S := (qs_wR S53 0 a0z (some q46))) (q := q56) (ci := 0)
  refine lv_dup hx hb dX6_init_19 rfl ?_
  refine qc_v hG (va_runI (As := []) (rest := [.ref q56, .ref a0z]) ⟨hx, hb, hml, hown, hts⟩ (c_Jx4a65c_init_da8c8 l g _ (qs_nw (qs_wR S53 0 a0z (some q46)) q56 0) q56 h) (cwI 0 hts gX6_init_Jx4a65c_init_da8c8 rfl rfl rfl (hts (.initialized RJx4a65c) (List.mem_of_getElem? (i := 6) rfl)) (hts (.methodLink RX6 11 yJx4a65c_init_da8c8) (List.mem_of_getElem? (i := 21) rfl)) (hts (.instanceMethod yJx4a65c_init_da8c8) (List.mem_of_getElem? (i := 22) rfl)) rfl (by decide +kernel) ⟨(Nat.le_of_ble_eq_true rfl), (Nat.le_of_ble_eq_true rfl)⟩) ⟨qs_Pc.blind _ _ _ _, hG.pre _⟩ rfl rfl hl.1 rfl (lv_room (Nat.le_of_ble_eq_true rfl)) dX6_init_20 ⟨Nat.le_trans hkc hmR, Nat.le_trans hks hsR⟩) (fun S65 H locs h hG => ?_)
  obtain ⟨⟨hL66, fK67⟩, h⟩ := h
  refine qr_putRF (C := RX6) (T := TX6) (N := 8) (ci := 6) hx hb hts in6 tyX6 tyX6_ok nmX6 hown hG hL66 fK67 (by decide) rfl 1 (by decide) rfl (hts (.fieldLink RX6 16 "QuayMesh" "allBoxes" "Ljava/util/ArrayList;") (List.mem_of_getElem? (i := 8) rfl)) (fun _ h9 => h9) rfl hin9 rfl (x := some q56) rfl (tyX6_ok 1 (by decide)) rfl rfl dX6_init_23 (fun H locs hG => ?_)
  refine lv_aload_n hx hb dX6_init_26 rfl (lv_at hl 0 rfl) ?_
  obtain ⟨⟨hs69c, hs69s⟩, h⟩ := h
  refine qr_new (C := RJx4a65c) (T := TJx4a65c) (N := 3) (ci := 0) hx hb hts in0 tyJx4a65c tyJx4a65c_ok hown (hts (.classLink RX6 9 RJx4a65c) (List.mem_of_getElem? (i := 4) rfl)) (hts (.instantiable RJx4a65c 3) (List.mem_of_getElem? (i := 5) rfl)) (hts (.initialized RJx4a65c) (List.mem_of_getElem? (i := 6) rfl)) hG (by decide) rfl hf9_0 (Nat.le_trans hs69c hmR) (Nat.le_trans hs69s hsR) dX6_init_27 (fun q68 H hq70 hq70t hG => ?_)
  have hkc := hs69c
  have hks := hs69s
  have h := h q68 hq70 hq70t
  have hL71 := qs_nwL (S := (qs_wR S65 1 a0z (some q56))) (q := q68) (ci := 0) hL66
  have fK72 := qs_nwK (S := (qs_wR S65 1 a0z (some q56))) (q := q68) (ci := 0) hq70 hL66 fK67
  have hL73 := qs_nwN (S := (qs_wR S65 1 a0z (some q56))) (q := q68) (ci := 0)
  have fK74 := qs_nwM (S := (qs_wR S65 1 a0z (some q56))) (q := q68) (ci := 0)
  refine lv_dup hx hb dX6_init_30 rfl ?_
  refine qc_v hG (va_runI (As := []) (rest := [.ref q68, .ref a0z]) ⟨hx, hb, hml, hown, hts⟩ (c_Jx4a65c_init_da8c8 l g _ (qs_nw (qs_wR S65 1 a0z (some q56)) q68 0) q68 h) (cwI 0 hts gX6_init_Jx4a65c_init_da8c8 rfl rfl rfl (hts (.initialized RJx4a65c) (List.mem_of_getElem? (i := 6) rfl)) (hts (.methodLink RX6 11 yJx4a65c_init_da8c8) (List.mem_of_getElem? (i := 21) rfl)) (hts (.instanceMethod yJx4a65c_init_da8c8) (List.mem_of_getElem? (i := 22) rfl)) rfl (by decide +kernel) ⟨(Nat.le_of_ble_eq_true rfl), (Nat.le_of_ble_eq_true rfl)⟩) ⟨qs_Pc.blind _ _ _ _, hG.pre _⟩ rfl rfl hl.1 rfl (lv_room (Nat.le_of_ble_eq_true rfl)) dX6_init_31 ⟨Nat.le_trans hkc hmR, Nat.le_trans hks hsR⟩) (fun S77 H locs h hG => ?_)
  obtain ⟨⟨hL78, fK79⟩, h⟩ := h
  refine qr_putRF (C := RX6) (T := TX6) (N := 8) (ci := 6) hx hb hts in6 tyX6 tyX6_ok nmX6 hown hG hL78 fK79 (by decide) rfl 2 (by decide) rfl (hts (.fieldLink RX6 19 "QuayMesh" "allMessages" "Ljava/util/ArrayList;") (List.mem_of_getElem? (i := 9) rfl)) (fun _ h9 => h9) rfl hin9 rfl (x := some q68) rfl (tyX6_ok 2 (by decide)) rfl rfl dX6_init_34 (fun H locs hG => ?_)
  refine lv_aload_n hx hb dX6_init_37 rfl (lv_at hl 0 rfl) ?_
  obtain ⟨⟨hs81c, hs81s⟩, h⟩ := h
  refine qr_new (C := RJx4a65c) (T := TJx4a65c) (N := 3) (ci := 0) hx hb hts in0 tyJx4a65c tyJx4a65c_ok hown (hts (.classLink RX6 9 RJx4a65c) (List.mem_of_getElem? (i := 4) rfl)) (hts (.instantiable RJx4a65c 3) (List.mem_of_getElem? (i := 5) rfl)) (hts (.initialized RJx4a65c) (List.mem_of_getElem? (i := 6) rfl)) hG (by decide) rfl hf9_0 (Nat.le_trans hs81c hmR) (Nat.le_trans hs81s hsR) dX6_init_38 (fun q80 H hq82 hq82t hG => ?_)
  have hkc := hs81c
  have hks := hs81s
  have h := h q80 hq82 hq82t
  have hL83 := qs_nwL (S := (qs_wR S77 2 a0z (some q68))) (q := q80) (ci := 0) hL78
  have fK84 := qs_nwK (S := (qs_wR S77 2 a0z (some q68))) (q := q80) (ci := 0) hq82 hL78 fK79
  have hL85 := qs_nwN (S := (qs_wR S77 2 a0z (some q68))) (q := q80) (ci := 0)
  have fK86 := qs_nwM (S := (qs_wR S77 2 a0z (some q68))) (q := q80) (ci := 0)
  refine lv_dup hx hb dX6_init_41 rfl ?_
  refine qc_v hG (va_runI (As := []) (rest := [.ref q80, .ref a0z]) ⟨hx, hb, hml, hown, hts⟩ (c_Jx4a65c_init_da8c8 l g _ (qs_nw (qs_wR S77 2 a0z (some q68)) q80 0) q80 h) (cwI 0 hts gX6_init_Jx4a65c_init_da8c8 rfl rfl rfl (hts (.initialized RJx4a65c) (List.mem_of_getElem? (i := 6) rfl)) (hts (.methodLink RX6 11 yJx4a65c_init_da8c8) (List.mem_of_getElem? (i := 21) rfl)) (hts (.instanceMethod yJx4a65c_init_da8c8) (List.mem_of_getElem? (i := 22) rfl)) rfl (by decide +kernel) ⟨(Nat.le_of_ble_eq_true rfl), (Nat.le_of_ble_eq_true rfl)⟩) ⟨qs_Pc.blind _ _ _ _, hG.pre _⟩ rfl rfl hl.1 rfl (lv_room (Nat.le_of_ble_eq_true rfl)) dX6_init_42 ⟨Nat.le_trans hkc hmR, Nat.le_trans hks hsR⟩) (fun S89 H locs h hG => ?_)
  obtain ⟨⟨hL90, fK91⟩, h⟩ := h
  refine qr_putRF (C := RX6) (T := TX6) (N := 8) (ci := 6) hx hb hts in6 tyX6 tyX6_ok nmX6 hown hG hL90 fK91 (by decide) rfl 3 (by decide) rfl (hts (.fieldLink RX6 22 "QuayMesh" "log" "Ljava/util/ArrayList;") (List.mem_of_getElem? (i := 10) rfl)) (fun _ h9 => h9) rfl hin9 rfl (x := some q80) rfl (tyX6_ok 3 (by decide)) rfl rfl dX6_init_45 (fun H locs hG => ?_)
  refine lv_aload_n hx hb dX6_init_48 rfl (lv_at hl 0 rfl) ?_
  obtain ⟨⟨hs93c, hs93s⟩, h⟩ := h
  refine qr_new (C := RJx4a65c) (T := TJx4a65c) (N := 3) (ci := 0) hx hb hts in0 tyJx4a65c tyJx4a65c_ok hown (hts (.classLink RX6 9 RJx4a65c) (List.mem_of_getElem? (i := 4) rfl)) (hts (.instantiable RJx4a65c 3) (List.mem_of_getElem? (i := 5) rfl)) (hts (.initialized RJx4a65c) (List.mem_of_getElem? (i := 6) rfl)) hG (by decide) rfl hf9_0 (Nat.le_trans hs93c hmR) (Nat.le_trans hs93s hsR) dX6_init_49 (fun q92 H hq94 hq94t hG => ?_)
  have hkc := hs93c
  have hks := hs93s
  have h := h q92 hq94 hq94t
  have hL95 := qs_nwL (S := (qs_wR S89 3 a0z (some q80))) (q := q92) (ci := 0) hL90
  have fK96 := qs_nwK (S := (qs_wR S89 3 a0z (some q80))) (q := q92) (ci := 0) hq94 hL90 fK91
  have hL97 := qs_nwN (S := (qs_wR S89 3 a0z (some q80))) (q := q92) (ci := 0)
  have fK98 := qs_nwM (S := (qs_wR S89 3 a0z (some q80))) (q := q92) (ci := 0)
  refine lv_dup hx hb dX6_init_52 rfl ?_
  refine qc_v hG (va_runI (As := []) (rest := [.ref q92, .ref a0z]) ⟨hx, hb, hml, hown, hts⟩ (c_Jx4a65c_init_da8c8 l g _ (qs_nw (qs_wR S89 3 a0z (some q80)) q92 0) q92 h) (cwI 0 hts gX6_init_Jx4a65c_init_da8c8 rfl rfl rfl (hts (.initialized RJx4a65c) (List.mem_of_getElem? (i := 6) rfl)) (hts (.methodLink RX6 11 yJx4a65c_init_da8c8) (List.mem_of_getElem? (i := 21) rfl)) (hts (.instanceMethod yJx4a65c_init_da8c8) (List.mem_of_getElem? (i := 22) rfl)) rfl (by decide +kernel) ⟨(Nat.le_of_ble_eq_true rfl), (Nat.le_of_ble_eq_true rfl)⟩) ⟨qs_Pc.blind _ _ _ _, hG.pre _⟩ rfl rfl hl.1 rfl (lv_room (Nat.le_of_ble_eq_true rfl)) dX6_init_53 ⟨Nat.le_trans hkc hmR, Nat.le_trans hks hsR⟩) (fun S101 H locs h hG => ?_)
  obtain ⟨⟨hL102, fK103⟩, h⟩ := h
  refine qr_putRF (C := RX6) (T := TX6) (N := 8) (ci := 6) hx hb hts in6 tyX6 tyX6_ok nmX6 hown hG hL102 fK103 (by decide) rfl 4 (by decide) rfl (hts (.fieldLink RX6 25 "QuayMesh" "cranes" "Ljava/util/ArrayList;") (List.mem_of_getElem? (i := 11) rfl)) (fun _ h9 => h9) rfl hin9 rfl (x := some q92) rfl (tyX6_ok 4 (by decide)) rfl rfl dX6_init_56 (fun H locs hG => ?_)
  refine lv_aload_n hx hb dX6_init_59 rfl (lv_at hl 0 rfl) ?_
  obtain ⟨⟨hs105c, hs105s⟩, h⟩ := h
  refine qr_new (C := RJx4a65c) (T := TJx4a65c) (N := 3) (ci := 0) hx hb hts in0 tyJx4a65c tyJx4a65c_ok hown (hts (.classLink RX6 9 RJx4a65c) (List.mem_of_getElem? (i := 4) rfl)) (hts (.instantiable RJx4a65c 3) (List.mem_of_getElem? (i := 5) rfl)) (hts (.initialized RJx4a65c) (List.mem_of_getElem? (i := 6) rfl)) hG (by decide) rfl hf9_0 (Nat.le_trans hs105c hmR) (Nat.le_trans hs105s hsR) dX6_init_60 (fun q104 H hq106 hq106t hG => ?_)
  have hkc := hs105c
  have hks := hs105s
  have h := h q104 hq106 hq106t
  have hL107 := qs_nwL (S := (qs_wR S101 4 a0z (some q92))) (q := q104) (ci := 0) hL102
  have fK108 := qs_nwK (S := (qs_wR S101 4 a0z (some q92))) (q := q104) (ci := 0) hq106 hL102 fK103
  have hL109 := qs_nwN (S := (qs_wR S101 4 a0z (some q92))) (q := q104) (ci := 0)
  have fK110 := qs_nwM (S := (qs_wR S101 4 a0z (some q92))) (q := q104) (ci := 0)
  refine lv_dup hx hb dX6_init_63 rfl ?_
  refine qc_v hG (va_runI (As := []) (rest := [.ref q104, .ref a0z]) ⟨hx, hb, hml, hown, hts⟩ (c_Jx4a65c_init_da8c8 l g _ (qs_nw (qs_wR S101 4 a0z (some q92)) q104 0) q104 h) (cwI 0 hts gX6_init_Jx4a65c_init_da8c8 rfl rfl rfl (hts (.initialized RJx4a65c) (List.mem_of_getElem? (i := 6) rfl)) (hts (.methodLink RX6 11 yJx4a65c_init_da8c8) (List.mem_of_getElem? (i := 21) rfl)) (hts (.instanceMethod yJx4a65c_init_da8c8) (List.mem_of_getElem? (i := 22) rfl)) rfl (by decide +kernel) ⟨(Nat.le_of_ble_eq_true rfl), (Nat.le_of_ble_eq_true rfl)⟩) ⟨qs_Pc.blind _ _ _ _, hG.pre _⟩ rfl rfl hl.1 rfl (lv_room (Nat.le_of_ble_eq_true rfl)) dX6_init_64 ⟨Nat.le_trans hkc hmR, Nat.le_trans hks hsR⟩) (fun S113 H locs h hG => ?_)
  obtain ⟨⟨hL114, fK115⟩, h⟩ := h
  refine qr_putRF (C := RX6) (T := TX6) (N := 8) (ci := 6) hx hb hts in6 tyX6 tyX6_ok nmX6 hown hG hL114 fK115 (by decide) rfl 5 (by decide) rfl (hts (.fieldLink RX6 28 "QuayMesh" "trucks" "Ljava/util/ArrayList;") (List.mem_of_getElem? (i := 12) rfl)) (fun _ h9 => h9) rfl hin9 rfl (x := some q104) rfl (tyX6_ok 5 (by decide)) rfl rfl dX6_init_67 (fun H locs hG => ?_)
  refine lv_aload_n hx hb dX6_init_70 rfl (lv_at hl 0 rfl) ?_
  refine lv_iconst (v := (0 : Int32)) hx hb dX6_init_71 (by decide +kernel) ?_
  refine qr_putI (C := RX6) (T := TX6) (N := 8) (ci := 6) hx hb hts in6 tyX6 tyX6_ok nmX6 hown hG hL114 fK115 (by decide) rfl 6 (by decide) rfl (hts (.fieldLink RX6 31 "QuayMesh" "now" "I") (List.mem_of_getElem? (i := 13) rfl)) (fun _ h9 => h9) rfl (x := (0 : Int32)) (tyX6_ok 6 (by decide)) rfl rfl dX6_init_72 (fun H locs hG => ?_)
  refine lv_aload_n hx hb dX6_init_75 rfl (lv_at hl 0 rfl) ?_
  refine lv_iconst (v := (0 : Int32)) hx hb dX6_init_76 (by decide +kernel) ?_
  refine qr_putI (C := RX6) (T := TX6) (N := 8) (ci := 6) hx hb hts in6 tyX6 tyX6_ok nmX6 hown hG hL114 fK115 (by decide) rfl 7 (by decide) rfl (hts (.fieldLink RX6 35 "QuayMesh" "movesMade" "I") (List.mem_of_getElem? (i := 14) rfl)) (fun _ h9 => h9) rfl (x := (0 : Int32)) (tyX6_ok 7 (by decide)) rfl rfl dX6_init_77 (fun H locs hG => ?_)
  refine lv_iconst (v := (0 : Int32)) hx hb dX6_init_80 (by decide +kernel) ?_
  refine lv_istore_n (lv' := [(1, .int (0 : Int32)), (0, .ref a0z)]) hx hb dX6_init_81 rfl hl (by decide) rfl (fun ls hl => ?_)
  obtain ⟨n116, h⟩ := h
  exact b82 n116 (qs_wI (qs_wI (qs_wR S113 5 a0z (some q104)) 6 a0z (0 : Int32)) 7 a0z (0 : Int32)) a0z (0 : Int32) _ _ 6 18 ls hkc hks h hG (lv_sub hl [1, 0] rfl)

def wp_Jx4a65c_size_8abf5 (t0 m9 : Nat) (post : Int32 → qs_S → Prop) (SA : qs_S) (a0z : Nat) : Prop := (a0z ∈ qs_L SA ∧ qs_K SA a0z = 0) ∧ (∀ v3 : Int32, v3 = qs_I SA 2 a0z → post v3 SA)
set_option maxHeartbeats 4000000 in
set_option maxRecDepth 100000 in
theorem c_Jx4a65c_size_8abf5 (l : Launch) (g : qs_G) (sz : Nat) (SA : qs_S) (a0z : Nat) {post : Int32 → qs_S → Prop} (h : wp_Jx4a65c_size_8abf5 g.2.2.2.2.2.2.1 g.2.2.2.2.2.2.2 post SA a0z) : Met l yJx4a65c_size_8abf5 wsJx4a65c_size_8abf5 ({ frames := 0, cells := 0, slots := 0, locals := 0 } : Room) (qs_Pc g sz SA [.ref a0z]) (qs_Qi g (qs_F g SA sz) post) 0 0 (qs_F g SA sz) := by
  refine Met.ofW (cc := cJx4a65c_size_8abf5) (maxL := 1) (ret := (some .int)) (by decide +kernel) rfl ?_
  intro p e s m args below meth c s₁ B hml hv
  obtain ⟨rfl, hsz, hG⟩ := qs_Gd.start hv
  subst hsz
  have hx := B.exec
  have hb := B.bytes
  have hr := B.returns
  have hts := atoms_spec (ws := wsJx4a65c_size_8abf5) B.pre
  have hown : s.vm.findClass RJx4a65c = some m.cls := findClass_of_methodNamed B.named
  have hlk := B.notSynchronized
  have in0 : ∀ w ∈ u_ws RJx4a65c TJx4a65c 3, w ∈ wsJx4a65c_size_8abf5 := fun w h => List.mem_cons_of_mem _ (List.mem_append_right _ (h))
  have hl := lv_entry ([.ref a0z]) (n := 1) (Nat.le_of_ble_eq_true rfl)
  rw [lg_entry_eq]
  generalize (lg_sl ([.ref a0z]) ++ List.replicate (1 - (lg_sl ([.ref a0z])).length) Slot.unset).toArray = ls at hl ⊢
  have hl : lv_has ls 1 [(0, .ref a0z)] := hl
  unfold wp_Jx4a65c_size_8abf5 at h
  refine lv_aload_n hx hb dJx4a65c_size_8abf5_0 rfl (lv_at hl 0 rfl) ?_
  obtain ⟨⟨hL1, fK2⟩, h⟩ := h
  refine qr_get (C := RJx4a65c) (T := TJx4a65c) (N := 3) (ci := 0) hx hb hts in0 hown hG hL1 fK2 (by decide) rfl 2 (by decide) rfl (hts (.fieldLink RJx4a65c 48 "java/util/ArrayList" "size" "I") (List.mem_of_getElem? (i := 1) rfl)) (fun _ h9 => h9) (v := .int (qs_I SA 2 a0z)) rfl dJx4a65c_size_8abf5_1 ?_
  refine lv_topi (fun v3 ev3 => ?_)
  have h := h v3 ev3
  exact qe_i hx hb hr hlk hG h (Nat.le_refl _) (Nat.le_refl _) dJx4a65c_size_8abf5_4
def wp_J3_checkIndex_8e157_b9 (t0 m9 : Nat) (post : Int32 → qs_S → Prop) (S : qs_S) (x0 : Int32) (x1 : Int32) : Prop := False
def wp_J3_checkIndex_8e157 (t0 m9 : Nat) (post : Int32 → qs_S → Prop) (SA : qs_S) (x0z : Int32) (x1z : Int32) : Prop := (x0z < 0 → (wp_J3_checkIndex_8e157_b9 t0 m9 post SA x0z x1z)) ∧ (¬ x0z < 0 → ((x0z < x1z → (post x0z SA)) ∧ (¬ x0z < x1z → (wp_J3_checkIndex_8e157_b9 t0 m9 post SA x0z x1z))))
set_option maxHeartbeats 4000000 in
set_option maxRecDepth 100000 in
theorem c_J3_checkIndex_8e157 (l : Launch) (g : qs_G) (sz : Nat) (SA : qs_S) (x0z : Int32) (x1z : Int32) {post : Int32 → qs_S → Prop} (h : wp_J3_checkIndex_8e157 g.2.2.2.2.2.2.1 g.2.2.2.2.2.2.2 post SA x0z x1z) : Met l yJ3_checkIndex_8e157 wsJ3_checkIndex_8e157 ({ frames := 0, cells := 0, slots := 0, locals := 0 } : Room) (qs_Pc g sz SA [.int x0z, .int x1z, .null]) (qs_Qi g (qs_F g SA sz) post) 0 0 (qs_F g SA sz) := by
  refine Met.ofW (cc := cJ3_checkIndex_8e157) (maxL := 3) (ret := (some .int)) (by decide +kernel) rfl ?_
  intro p e s m args below meth c s₁ B hml hv
  obtain ⟨rfl, hsz, hG⟩ := qs_Gd.start hv
  subst hsz
  have hx := B.exec
  have hb := B.bytes
  have hr := B.returns
  have hts := atoms_spec (ws := wsJ3_checkIndex_8e157) B.pre
  have hown : s.vm.findClass RJ3 = some m.cls := findClass_of_methodNamed B.named
  have hlk := B.notSynchronized
  have b9 : ∀ (S : qs_S) (x0 : Int32) (x1 : Int32) (H : Heap) (locs : List Loc) (ls : Array Slot), wp_J3_checkIndex_8e157_b9 g.2.2.2.2.2.2.1 g.2.2.2.2.2.2.2 post S x0 x1 → qs_Gd g (qs_F g SA s.heap.size) s S H locs → lv_has ls 3 [(0, .int x0), (1, .int x1), (2, .null)] → W p l e (headSpec wsJ3_checkIndex_8e157 ({ frames := 0, cells := 0, slots := 0, locals := 0 } : Room)).room s m (([.int x0z, .int x1z, .null] : List Value)).toArray below meth c H locs 0 0 (MQ below (qs_Qi g (qs_F g SA s.heap.size) post) (([.int x0z, .int x1z, .null] : List Value)).toArray s 0 0 (qs_F g SA s.heap.size)) (F0 m 9 ls []) := by
    intro S x0 x1 H locs ls h hG hl
    unfold wp_J3_checkIndex_8e157_b9 at h
    refine lv_aload_nN hx hb dJ3_checkIndex_8e157_9 rfl (lv_at hl 2 rfl) ?_
    refine lv_iload_n hx hb dJ3_checkIndex_8e157_10 rfl (lv_at hl 0 rfl) ?_
    refine lv_iload_n hx hb dJ3_checkIndex_8e157_11 rfl (lv_at hl 1 rfl) ?_
    exact h.elim
  have hl := lv_entry ([.int x0z, .int x1z, .null]) (n := 3) (Nat.le_of_ble_eq_true rfl)
  rw [lg_entry_eq]
  generalize (lg_sl ([.int x0z, .int x1z, .null]) ++ List.replicate (3 - (lg_sl ([.int x0z, .int x1z, .null])).length) Slot.unset).toArray = ls at hl ⊢
  have hl : lv_has ls 3 [(0, .int x0z), (1, .int x1z), (2, .null)] := hl
  unfold wp_J3_checkIndex_8e157 at h
  refine lv_iload_n hx hb dJ3_checkIndex_8e157_0 rfl (lv_at hl 0 rfl) ?_
  refine lv_if_lt (tgt := 9) hx hb dJ3_checkIndex_8e157_1 (by decide) (fun c1 => ?_) (fun c1 => ?_)
  · have h := h.1 c1
    exact b9 SA x0z x1z _ _ ls h hG (lv_sub hl [0, 1, 2] rfl)
  · have h := h.2 c1
    refine lv_iload_n hx hb dJ3_checkIndex_8e157_4 rfl (lv_at hl 0 rfl) ?_
    refine lv_iload_n hx hb dJ3_checkIndex_8e157_5 rfl (lv_at hl 1 rfl) ?_
    refine lv_icmp_lt (tgt := 16) hx hb dJ3_checkIndex_8e157_6 (by decide) (fun c2 => ?_) (fun c2 => ?_)
    · have h := h.1 c2
      refine lv_iload_n hx hb dJ3_checkIndex_8e157_16 rfl (lv_at hl 0 rfl) ?_
      exact qe_i hx hb hr hlk hG h (Nat.le_refl _) (Nat.le_refl _) dJ3_checkIndex_8e157_17
    · have h := h.2 c2
      exact b9 SA x0z x1z _ _ ls h hG (lv_sub hl [0, 1, 2] rfl)
def wp_J15_checkIndex_7cf53 (t0 m9 : Nat) (post : Int32 → qs_S → Prop) (SA : qs_S) (x0z : Int32) (x1z : Int32) : Prop := wp_J3_checkIndex_8e157 t0 m9 (fun (v4 : Int32) (S3 : qs_S) => post v4 S3) SA x0z x1z
set_option maxHeartbeats 4000000 in
set_option maxRecDepth 100000 in
theorem c_J15_checkIndex_7cf53 (l : Launch) (g : qs_G) (sz : Nat) (SA : qs_S) (x0z : Int32) (x1z : Int32) {post : Int32 → qs_S → Prop} (h : wp_J15_checkIndex_7cf53 g.2.2.2.2.2.2.1 g.2.2.2.2.2.2.2 post SA x0z x1z) : Met l yJ15_checkIndex_7cf53 wsJ15_checkIndex_7cf53 ({ frames := 1, cells := 0, slots := 0, locals := 22 } : Room) (qs_Pc g sz SA [.int x0z, .int x1z]) (qs_Qi g (qs_F g SA sz) post) 0 0 (qs_F g SA sz) := by
  refine Met.ofW (cc := cJ15_checkIndex_7cf53) (maxL := 2) (ret := (some .int)) (by decide +kernel) rfl ?_
  intro p e s m args below meth c s₁ B hml hv
  obtain ⟨rfl, hsz, hG⟩ := qs_Gd.start hv
  subst hsz
  have hx := B.exec
  have hb := B.bytes
  have hr := B.returns
  have hts := atoms_spec (ws := wsJ15_checkIndex_7cf53) B.pre
  have hown : s.vm.findClass RJ15 = some m.cls := findClass_of_methodNamed B.named
  have hlk := B.notSynchronized
  have hl := lv_entry ([.int x0z, .int x1z]) (n := 2) (Nat.le_of_ble_eq_true rfl)
  rw [lg_entry_eq]
  generalize (lg_sl ([.int x0z, .int x1z]) ++ List.replicate (2 - (lg_sl ([.int x0z, .int x1z])).length) Slot.unset).toArray = ls at hl ⊢
  have hl : lv_has ls 2 [(0, .int x0z), (1, .int x1z)] := hl
  unfold wp_J15_checkIndex_7cf53 at h
  refine lv_iload_n hx hb dJ15_checkIndex_7cf53_0 rfl (lv_at hl 0 rfl) ?_
  refine lv_iload_n hx hb dJ15_checkIndex_7cf53_1 rfl (lv_at hl 1 rfl) ?_
  refine lv_null hx hb dJ15_checkIndex_7cf53_2 ?_
  refine qc_i hG (va_runS (As := [.int x0z, .int x1z, .null]) (rest := []) ⟨hx, hb, hml, hown, hts⟩ (c_J3_checkIndex_8e157 l g _ SA x0z x1z h) (va_cwS 3 hts gJ15_checkIndex_7cf53_J3_checkIndex_8e157 rfl rfl rfl (by decide +kernel) ⟨(Nat.le_of_ble_eq_true rfl), (Nat.le_of_ble_eq_true rfl)⟩) ⟨qs_Pc.blind _ _ _ _, hG.pre _⟩ rfl rfl hl.1 rfl (lv_room (Nat.le_of_ble_eq_true rfl)) dJ15_checkIndex_7cf53_3 ⟨Nat.zero_le _, Nat.zero_le _⟩) (fun v4 S3 H locs h hG => ?_)
  exact qe_i hx hb hr hlk hG h (Nat.le_refl _) (Nat.le_refl _) dJ15_checkIndex_7cf53_6
def wp_Jx4a65c_elementData_915e3 (t0 m9 : Nat) (post : Option Nat → qs_S → Prop) (SA : qs_S) (a0z : Nat) (x1z : Int32) : Prop := (a0z ∈ qs_L SA ∧ qs_K SA a0z = 0) ∧ (∃ q3 : Nat, qs_R SA 1 a0z = some q3 ∧ ((q3 ∈ qs_L SA ∧ qs_K SA q3 = 10) ∧ (vp_in x1z (qs_Z SA q3) ∧ (∃ q7 : Nat, qs_O SA q3 x1z.toNatClampNeg = some q7 ∧ (post (some q7) SA)))))
set_option maxHeartbeats 4000000 in
set_option maxRecDepth 100000 in
theorem c_Jx4a65c_elementData_915e3 (l : Launch) (g : qs_G) (sz : Nat) (SA : qs_S) (a0z : Nat) (x1z : Int32) {post : Option Nat → qs_S → Prop} (h : wp_Jx4a65c_elementData_915e3 g.2.2.2.2.2.2.1 g.2.2.2.2.2.2.2 post SA a0z x1z) : Met l yJx4a65c_elementData_915e3 wsJx4a65c_elementData_915e3 ({ frames := 0, cells := 0, slots := 0, locals := 0 } : Room) (qs_Pc g sz SA [.ref a0z, .int x1z]) (qs_Qq g (qs_F g SA sz) post) 0 0 (qs_F g SA sz) := by
  refine Met.ofW (cc := cJx4a65c_elementData_915e3) (maxL := 2) (ret := (some (.object "java/lang/Object"))) (by decide +kernel) rfl ?_
  intro p e s m args below meth c s₁ B hml hv
  obtain ⟨rfl, hsz, hG⟩ := qs_Gd.start hv
  subst hsz
  have hx := B.exec
  have hb := B.bytes
  have hr := B.returns
  have hts := atoms_spec (ws := wsJx4a65c_elementData_915e3) B.pre
  have hown : s.vm.findClass RJx4a65c = some m.cls := findClass_of_methodNamed B.named
  have hlk := B.notSynchronized
  have in0 : ∀ w ∈ u_ws RJx4a65c TJx4a65c 3, w ∈ wsJx4a65c_elementData_915e3 := fun w h => List.mem_cons_of_mem _ (List.mem_append_right _ (h))
  have hl := lv_entry ([.ref a0z, .int x1z]) (n := 2) (Nat.le_of_ble_eq_true rfl)
  rw [lg_entry_eq]
  generalize (lg_sl ([.ref a0z, .int x1z]) ++ List.replicate (2 - (lg_sl ([.ref a0z, .int x1z])).length) Slot.unset).toArray = ls at hl ⊢
  have hl : lv_has ls 2 [(0, .ref a0z), (1, .int x1z)] := hl
  unfold wp_Jx4a65c_elementData_915e3 at h
  refine lv_aload_n hx hb dJx4a65c_elementData_915e3_0 rfl (lv_at hl 0 rfl) ?_
  obtain ⟨⟨hL1, fK2⟩, h⟩ := h
  obtain ⟨q3, eq3, h⟩ := h
  refine qr_get (C := RJx4a65c) (T := TJx4a65c) (N := 3) (ci := 0) hx hb hts in0 hown hG hL1 fK2 (by decide) rfl 1 (by decide) rfl (hts (.fieldLink RJx4a65c 9 "java/util/ArrayList" "elementData" "[Ljava/lang/Object;") (List.mem_of_getElem? (i := 1) rfl)) (fun _ h9 => h9) (v := .ref q3) (qs_rf eq3) dJx4a65c_elementData_915e3_1 ?_
  refine lv_iload_n hx hb dJx4a65c_elementData_915e3_4 rfl (lv_at hl 1 rfl) ?_
  obtain ⟨⟨hL4, fK5⟩, h⟩ := h
  obtain ⟨hi6, q7, eq7, h⟩ := h
  refine qr_aald hx hb hG hL4 fK5 hi6 (v := .ref q7) (qs_rf eq7) dJx4a65c_elementData_915e3_5 ?_
  exact qe_q (o := (some q7)) hx hb hr hlk rfl (Or.inl ⟨_, rfl⟩) hG h (Nat.le_refl _) (Nat.le_refl _) dJx4a65c_elementData_915e3_6
def wp_Jx4a65c_get_915e3 (t0 m9 : Nat) (post : Option Nat → qs_S → Prop) (SA : qs_S) (a0z : Nat) (x1z : Int32) : Prop := (a0z ∈ qs_L SA ∧ qs_K SA a0z = 0) ∧ (∀ v3 : Int32, v3 = qs_I SA 2 a0z → wp_J15_checkIndex_7cf53 t0 m9 (fun (v7 : Int32) (S6 : qs_S) => (a0z ∈ qs_L S6 ∧ qs_K S6 a0z = 0) ∧ (wp_Jx4a65c_elementData_915e3 t0 m9 (fun (o13 : Option Nat) (S12 : qs_S) => ∃ q14 : Nat, o13 = some q14 ∧ (post (some q14) S12)) S6 a0z x1z)) SA x1z v3)
set_option maxHeartbeats 4000000 in
set_option maxRecDepth 100000 in
theorem c_Jx4a65c_get_915e3 (l : Launch) (g : qs_G) (sz : Nat) (SA : qs_S) (a0z : Nat) (x1z : Int32) {post : Option Nat → qs_S → Prop} (h : wp_Jx4a65c_get_915e3 g.2.2.2.2.2.2.1 g.2.2.2.2.2.2.2 post SA a0z x1z) : Met l yJx4a65c_get_915e3 wsJx4a65c_get_915e3 ({ frames := 2, cells := 0, slots := 0, locals := 43 } : Room) (qs_Pc g sz SA [.ref a0z, .int x1z]) (qs_Qq g (qs_F g SA sz) post) 0 0 (qs_F g SA sz) := by
  refine Met.ofW (cc := cJx4a65c_get_915e3) (maxL := 2) (ret := (some (.object "java/lang/Object"))) (by decide +kernel) rfl ?_
  intro p e s m args below meth c s₁ B hml hv
  obtain ⟨rfl, hsz, hG⟩ := qs_Gd.start hv
  subst hsz
  have hx := B.exec
  have hb := B.bytes
  have hr := B.returns
  have hts := atoms_spec (ws := wsJx4a65c_get_915e3) B.pre
  have hown : s.vm.findClass RJx4a65c = some m.cls := findClass_of_methodNamed B.named
  have hlk := B.notSynchronized
  have in0 : ∀ w ∈ u_ws RJx4a65c TJx4a65c 3, w ∈ wsJx4a65c_get_915e3 := fun w h => List.mem_cons_of_mem _ (List.mem_append_right _ (h))
  have hl := lv_entry ([.ref a0z, .int x1z]) (n := 2) (Nat.le_of_ble_eq_true rfl)
  rw [lg_entry_eq]
  generalize (lg_sl ([.ref a0z, .int x1z]) ++ List.replicate (2 - (lg_sl ([.ref a0z, .int x1z])).length) Slot.unset).toArray = ls at hl ⊢
  have hl : lv_has ls 2 [(0, .ref a0z), (1, .int x1z)] := hl
  unfold wp_Jx4a65c_get_915e3 at h
  refine lv_iload_n hx hb dJx4a65c_get_915e3_0 rfl (lv_at hl 1 rfl) ?_
  refine lv_aload_n hx hb dJx4a65c_get_915e3_1 rfl (lv_at hl 0 rfl) ?_
  obtain ⟨⟨hL1, fK2⟩, h⟩ := h
  refine qr_get (C := RJx4a65c) (T := TJx4a65c) (N := 3) (ci := 0) hx hb hts in0 hown hG hL1 fK2 (by decide) rfl 2 (by decide) rfl (hts (.fieldLink RJx4a65c 48 "java/util/ArrayList" "size" "I") (List.mem_of_getElem? (i := 1) rfl)) (fun _ h9 => h9) (v := .int (qs_I SA 2 a0z)) rfl dJx4a65c_get_915e3_2 ?_
  refine lv_topi (fun v3 ev3 => ?_)
  have h := h v3 ev3
  refine qc_i hG (va_runS (As := [.int x1z, .int v3]) (rest := []) ⟨hx, hb, hml, hown, hts⟩ (c_J15_checkIndex_7cf53 l g _ SA x1z v3 h) (va_cwS 2 hts gJx4a65c_get_915e3_J15_checkIndex_7cf53 rfl rfl rfl (by decide +kernel) ⟨(Nat.le_of_ble_eq_true rfl), (Nat.le_of_ble_eq_true rfl)⟩) ⟨qs_Pc.blind _ _ _ _, hG.pre _⟩ rfl rfl hl.1 rfl (lv_room (Nat.le_of_ble_eq_true rfl)) dJx4a65c_get_915e3_5 ⟨Nat.zero_le _, Nat.zero_le _⟩) (fun v7 S6 H locs h hG => ?_)
  refine lv_pop hx hb dJx4a65c_get_915e3_8 rfl ?_
  refine lv_aload_n hx hb dJx4a65c_get_915e3_9 rfl (lv_at hl 0 rfl) ?_
  refine lv_iload_n hx hb dJx4a65c_get_915e3_10 rfl (lv_at hl 1 rfl) ?_
  obtain ⟨⟨hL10, fK11⟩, h⟩ := h
  refine qc_q hG (va_runV (As := [.int x1z]) (rest := []) ⟨hx, hb, hml, hown, hts⟩ (c_Jx4a65c_elementData_915e3 l g _ S6 a0z x1z h) (cwV 1 hts gJx4a65c_get_915e3_Jx4a65c_elementData_915e3 rfl rfl rfl (by decide +kernel) ⟨(Nat.le_of_ble_eq_true rfl), (Nat.le_of_ble_eq_true rfl)⟩) ⟨qs_Pc.blind _ _ _ _, hG.recv hL10 fK11 (by decide) rfl, hG.pre _⟩ rfl rfl hl.1 rfl (lv_room (Nat.le_of_ble_eq_true rfl)) dJx4a65c_get_915e3_11 ⟨Nat.zero_le _, Nat.zero_le _⟩) (fun o13 S12 H locs h hG => ?_)
  obtain ⟨q14, rfl, h⟩ := h
  exact qe_q (o := (some q14)) hx hb hr hlk rfl (Or.inl ⟨_, rfl⟩) hG h (Nat.le_refl _) (Nat.le_refl _) dJx4a65c_get_915e3_14
def wp_Jx4a65c_isEmpty_aae02_b12 (t0 m9 : Nat) (post : Int32 → qs_S → Prop) (S : qs_S) (s0 : Int32) : Prop := (s0 = 0 ∨ s0 = 1) ∧ post s0 S
def wp_Jx4a65c_isEmpty_aae02 (t0 m9 : Nat) (post : Int32 → qs_S → Prop) (SA : qs_S) (a0z : Nat) : Prop := (a0z ∈ qs_L SA ∧ qs_K SA a0z = 0) ∧ (∀ v4 : Int32, v4 = qs_I SA 2 a0z → (¬ v4 = 0 → (wp_Jx4a65c_isEmpty_aae02_b12 t0 m9 post SA (0 : Int32))) ∧ (v4 = 0 → (wp_Jx4a65c_isEmpty_aae02_b12 t0 m9 post SA (1 : Int32))))
set_option maxHeartbeats 4000000 in
set_option maxRecDepth 100000 in
theorem c_Jx4a65c_isEmpty_aae02 (l : Launch) (g : qs_G) (sz : Nat) (SA : qs_S) (a0z : Nat) {post : Int32 → qs_S → Prop} (h : wp_Jx4a65c_isEmpty_aae02 g.2.2.2.2.2.2.1 g.2.2.2.2.2.2.2 post SA a0z) : Met l yJx4a65c_isEmpty_aae02 wsJx4a65c_isEmpty_aae02 ({ frames := 0, cells := 0, slots := 0, locals := 0 } : Room) (qs_Pc g sz SA [.ref a0z]) (qs_Qi g (qs_F g SA sz) post) 0 0 (qs_F g SA sz) := by
  refine Met.ofW (cc := cJx4a65c_isEmpty_aae02) (maxL := 1) (ret := (some .boolean)) (by decide +kernel) rfl ?_
  intro p e s m args below meth c s₁ B hml hv
  obtain ⟨rfl, hsz, hG⟩ := qs_Gd.start hv
  subst hsz
  have hx := B.exec
  have hb := B.bytes
  have hr := B.returns
  have hts := atoms_spec (ws := wsJx4a65c_isEmpty_aae02) B.pre
  have hown : s.vm.findClass RJx4a65c = some m.cls := findClass_of_methodNamed B.named
  have hlk := B.notSynchronized
  have in0 : ∀ w ∈ u_ws RJx4a65c TJx4a65c 3, w ∈ wsJx4a65c_isEmpty_aae02 := fun w h => List.mem_cons_of_mem _ (List.mem_append_right _ (h))
  have b12 : ∀ (S : qs_S) (s0 : Int32) (H : Heap) (locs : List Loc) (ls : Array Slot), wp_Jx4a65c_isEmpty_aae02_b12 g.2.2.2.2.2.2.1 g.2.2.2.2.2.2.2 post S s0 → qs_Gd g (qs_F g SA s.heap.size) s S H locs → lv_has ls 1 [] → W p l e (headSpec wsJx4a65c_isEmpty_aae02 ({ frames := 0, cells := 0, slots := 0, locals := 0 } : Room)).room s m (([.ref a0z] : List Value)).toArray below meth c H locs 0 0 (MQ below (qs_Qi g (qs_F g SA s.heap.size) post) (([.ref a0z] : List Value)).toArray s 0 0 (qs_F g SA s.heap.size)) (F0 m 12 ls [.int s0]) := by
    intro S s0 H locs ls h hG hl
    unfold wp_Jx4a65c_isEmpty_aae02_b12 at h
    obtain ⟨z1, h⟩ := h
    exact qe_z hx hb hr hlk z1 hG h (Nat.le_refl _) (Nat.le_refl _) dJx4a65c_isEmpty_aae02_12
  have hl := lv_entry ([.ref a0z]) (n := 1) (Nat.le_of_ble_eq_true rfl)
  rw [lg_entry_eq]
  generalize (lg_sl ([.ref a0z]) ++ List.replicate (1 - (lg_sl ([.ref a0z])).length) Slot.unset).toArray = ls at hl ⊢
  have hl : lv_has ls 1 [(0, .ref a0z)] := hl
  unfold wp_Jx4a65c_isEmpty_aae02 at h
  refine lv_aload_n hx hb dJx4a65c_isEmpty_aae02_0 rfl (lv_at hl 0 rfl) ?_
  obtain ⟨⟨hL2, fK3⟩, h⟩ := h
  refine qr_get (C := RJx4a65c) (T := TJx4a65c) (N := 3) (ci := 0) hx hb hts in0 hown hG hL2 fK3 (by decide) rfl 2 (by decide) rfl (hts (.fieldLink RJx4a65c 48 "java/util/ArrayList" "size" "I") (List.mem_of_getElem? (i := 1) rfl)) (fun _ h9 => h9) (v := .int (qs_I SA 2 a0z)) rfl dJx4a65c_isEmpty_aae02_1 ?_
  refine lv_topi (fun v4 ev4 => ?_)
  have h := h v4 ev4
  refine lv_if_ne (tgt := 11) hx hb dJx4a65c_isEmpty_aae02_4 (by decide) (fun c5 => ?_) (fun c5 => ?_)
  · have h := h.1 c5
    refine lv_iconst (v := (0 : Int32)) hx hb dJx4a65c_isEmpty_aae02_11 (by decide +kernel) ?_
    exact b12 SA (0 : Int32) _ _ ls h hG (lv_sub hl [] rfl)
  · have h := h.2 c5
    refine lv_iconst (v := (1 : Int32)) hx hb dJx4a65c_isEmpty_aae02_7 (by decide +kernel) ?_
    refine lv_goto (tgt := 12) hx hb dJx4a65c_isEmpty_aae02_8 (by decide) ?_
    exact b12 SA (1 : Int32) _ _ ls h hG (lv_sub hl [] rfl)
def wp_Jxa1e45_init_da8c8 (t0 m9 : Nat) (post : qs_S → Prop) (SA : qs_S) (a0z : Nat) : Prop := post SA
set_option maxHeartbeats 4000000 in
set_option maxRecDepth 100000 in
theorem c_Jxa1e45_init_da8c8 (l : Launch) (g : qs_G) (sz : Nat) (SA : qs_S) (a0z : Nat) {post : qs_S → Prop} (h : wp_Jxa1e45_init_da8c8 g.2.2.2.2.2.2.1 g.2.2.2.2.2.2.2 post SA a0z) : Met l yJxa1e45_init_da8c8 wsJxa1e45_init_da8c8 ({ frames := 1, cells := 0, slots := 0, locals := 20 } : Room) (qs_Pc g sz SA [.ref a0z]) (qs_Qv g (qs_F g SA sz) post) 0 0 (qs_F g SA sz) := by
  refine Met.ofW (cc := cJxa1e45_init_da8c8) (maxL := 1) (ret := none) (by decide +kernel) rfl ?_
  intro p e s m args below meth c s₁ B hml hv
  obtain ⟨rfl, hsz, hG⟩ := qs_Gd.start hv
  subst hsz
  have hx := B.exec
  have hb := B.bytes
  have hr := B.returns
  have hts := atoms_spec (ws := wsJxa1e45_init_da8c8) B.pre
  have hown : s.vm.findClass RJxa1e45 = some m.cls := findClass_of_methodNamed B.named
  have hlk := B.notSynchronized
  have hin9 : meth.name = "<init>" := (name_of_methodNamed B.named B.method).1
  have hl := lv_entry ([.ref a0z]) (n := 1) (Nat.le_of_ble_eq_true rfl)
  rw [lg_entry_eq]
  generalize (lg_sl ([.ref a0z]) ++ List.replicate (1 - (lg_sl ([.ref a0z])).length) Slot.unset).toArray = ls at hl ⊢
  have hl : lv_has ls 1 [(0, .ref a0z)] := hl
  unfold wp_Jxa1e45_init_da8c8 at h
  refine lv_aload_n hx hb dJxa1e45_init_da8c8_0 rfl (lv_at hl 0 rfl) ?_
  refine W.objInit hx hb hown (hts (.methodLink RJxa1e45 1 objectInit) (List.mem_of_getElem? (i := 1) rfl)) (hts (.instanceMethod objectInit) (List.mem_of_getElem? (i := 2) rfl)) (hts (.code objectInit ⟨#[0xb1]⟩ 1 none) (List.mem_of_getElem? (i := 3) rfl)) rfl (hl.1.trans hml.symm) rfl dJxa1e45_init_da8c8_1 (Nat.le_of_ble_eq_true rfl) (Nat.le_of_ble_eq_true rfl) ?_
  refine W.eq (g2 := F0 m 4 ls []) rfl ?_
  exact qe_v hx hb hr hlk hG h (Nat.le_refl _) (Nat.le_refl _) dJxa1e45_init_da8c8_4
def wp_Jxc12de_init_da8c8 (t0 m9 : Nat) (post : qs_S → Prop) (SA : qs_S) (a0z : Nat) : Prop := wp_Jxa1e45_init_da8c8 t0 m9 (fun (S3 : qs_S) => (a0z ∈ qs_L S3 ∧ qs_K S3 a0z = 0) ∧ (post (qs_wI S3 0 a0z (0 : Int32)))) SA a0z
set_option maxHeartbeats 4000000 in
set_option maxRecDepth 100000 in
theorem c_Jxc12de_init_da8c8 (l : Launch) (g : qs_G) (sz : Nat) (SA : qs_S) (a0z : Nat) {post : qs_S → Prop} (h : wp_Jxc12de_init_da8c8 g.2.2.2.2.2.2.1 g.2.2.2.2.2.2.2 post SA a0z) : Met l yJxc12de_init_da8c8 wsJxc12de_init_da8c8 ({ frames := 2, cells := 0, slots := 0, locals := 40 } : Room) (qs_Pc g sz SA [.ref a0z]) (qs_Qv g (qs_F g SA sz) post) 0 0 (qs_F g SA sz) := by
  refine Met.ofW (cc := cJxc12de_init_da8c8) (maxL := 1) (ret := none) (by decide +kernel) rfl ?_
  intro p e s m args below meth c s₁ B hml hv
  obtain ⟨rfl, hsz, hG⟩ := qs_Gd.start hv
  subst hsz
  have hx := B.exec
  have hb := B.bytes
  have hr := B.returns
  have hts := atoms_spec (ws := wsJxc12de_init_da8c8) B.pre
  have hown : s.vm.findClass RJxc12de = some m.cls := findClass_of_methodNamed B.named
  have hlk := B.notSynchronized
  have hin9 : meth.name = "<init>" := (name_of_methodNamed B.named B.method).1
  have in0 : ∀ w ∈ u_ws RJx4a65c TJx4a65c 3, w ∈ wsJxc12de_init_da8c8 := fun w h => List.mem_cons_of_mem _ (List.mem_append_right _ (h))
  have hl := lv_entry ([.ref a0z]) (n := 1) (Nat.le_of_ble_eq_true rfl)
  rw [lg_entry_eq]
  generalize (lg_sl ([.ref a0z]) ++ List.replicate (1 - (lg_sl ([.ref a0z])).length) Slot.unset).toArray = ls at hl ⊢
  have hl : lv_has ls 1 [(0, .ref a0z)] := hl
  unfold wp_Jxc12de_init_da8c8 at h
  refine lv_aload_n hx hb dJxc12de_init_da8c8_0 rfl (lv_at hl 0 rfl) ?_
  refine qc_v hG (va_runI (As := []) (rest := []) ⟨hx, hb, hml, hown, hts⟩ (c_Jxa1e45_init_da8c8 l g _ SA a0z h) (cwI 0 hts gJxc12de_init_da8c8_Jxa1e45_init_da8c8 rfl rfl rfl (hts (.initialized RJxa1e45) (List.mem_of_getElem? (i := 4) rfl)) (hts (.methodLink RJxc12de 1 yJxa1e45_init_da8c8) (List.mem_of_getElem? (i := 2) rfl)) (hts (.instanceMethod yJxa1e45_init_da8c8) (List.mem_of_getElem? (i := 3) rfl)) rfl (by decide +kernel) ⟨(Nat.le_of_ble_eq_true rfl), (Nat.le_of_ble_eq_true rfl)⟩) ⟨qs_Pc.blind _ _ _ _, hG.pre _⟩ rfl rfl hl.1 rfl (lv_room (Nat.le_of_ble_eq_true rfl)) dJxc12de_init_da8c8_1 ⟨Nat.zero_le _, Nat.zero_le _⟩) (fun S3 H locs h hG => ?_)
  refine lv_aload_n hx hb dJxc12de_init_da8c8_4 rfl (lv_at hl 0 rfl) ?_
  refine lv_iconst (v := (0 : Int32)) hx hb dJxc12de_init_da8c8_5 (by decide +kernel) ?_
  obtain ⟨⟨hL4, fK5⟩, h⟩ := h
  refine qr_putI (C := RJx4a65c) (T := TJx4a65c) (N := 3) (ci := 0) hx hb hts in0 tyJx4a65c tyJx4a65c_ok nmJx4a65c hown hG hL4 fK5 (by decide) rfl 0 (by decide) rfl (hts (.fieldLink RJxc12de 7 "java/util/AbstractList" "modCount" "I") (List.mem_of_getElem? (i := 1) rfl)) (fun _ h9 => h9) rfl (x := (0 : Int32)) (tyJx4a65c_ok 0 (by decide)) rfl rfl dJxc12de_init_da8c8_6 (fun H locs hG => ?_)
  exact qe_v hx hb hr hlk hG h (Nat.le_refl _) (Nat.le_refl _) dJxc12de_init_da8c8_9
def wp_Jx4a65c_init_da8c8 (t0 m9 : Nat) (post : qs_S → Prop) (SA : qs_S) (a0z : Nat) : Prop := wp_Jxc12de_init_da8c8 t0 m9 (fun (S3 : qs_S) => (a0z ∈ qs_L S3 ∧ qs_K S3 a0z = 0) ∧ (post (qs_wR S3 1 a0z (some t0)))) SA a0z
set_option maxHeartbeats 4000000 in
set_option maxRecDepth 100000 in
theorem c_Jx4a65c_init_da8c8 (l : Launch) (g : qs_G) (sz : Nat) (SA : qs_S) (a0z : Nat) {post : qs_S → Prop} (h : wp_Jx4a65c_init_da8c8 g.2.2.2.2.2.2.1 g.2.2.2.2.2.2.2 post SA a0z) : Met l yJx4a65c_init_da8c8 wsJx4a65c_init_da8c8 ({ frames := 3, cells := 0, slots := 0, locals := 60 } : Room) (qs_Pc g sz SA [.ref a0z]) (qs_Qv g (qs_F g SA sz) post) 0 0 (qs_F g SA sz) := by
  refine Met.ofW (cc := cJx4a65c_init_da8c8) (maxL := 1) (ret := none) (by decide +kernel) rfl ?_
  intro p e s m args below meth c s₁ B hml hv
  obtain ⟨rfl, hsz, hG⟩ := qs_Gd.start hv
  subst hsz
  have hx := B.exec
  have hb := B.bytes
  have hr := B.returns
  have hts := atoms_spec (ws := wsJx4a65c_init_da8c8) B.pre
  have hown : s.vm.findClass RJx4a65c = some m.cls := findClass_of_methodNamed B.named
  have hlk := B.notSynchronized
  have hin9 : meth.name = "<init>" := (name_of_methodNamed B.named B.method).1
  have in0 : ∀ w ∈ u_ws RJx4a65c TJx4a65c 3, w ∈ wsJx4a65c_init_da8c8 := fun w h => List.mem_cons_of_mem _ (List.mem_append_right _ (h))
  have hl := lv_entry ([.ref a0z]) (n := 1) (Nat.le_of_ble_eq_true rfl)
  rw [lg_entry_eq]
  generalize (lg_sl ([.ref a0z]) ++ List.replicate (1 - (lg_sl ([.ref a0z])).length) Slot.unset).toArray = ls at hl ⊢
  have hl : lv_has ls 1 [(0, .ref a0z)] := hl
  unfold wp_Jx4a65c_init_da8c8 at h
  refine lv_aload_n hx hb dJx4a65c_init_da8c8_0 rfl (lv_at hl 0 rfl) ?_
  refine qc_v hG (va_runI (As := []) (rest := []) ⟨hx, hb, hml, hown, hts⟩ (c_Jxc12de_init_da8c8 l g _ SA a0z h) (cwI 0 hts gJx4a65c_init_da8c8_Jxc12de_init_da8c8 rfl rfl rfl (hts (.initialized RJxc12de) (List.mem_of_getElem? (i := 5) rfl)) (hts (.methodLink RJx4a65c 1 yJxc12de_init_da8c8) (List.mem_of_getElem? (i := 3) rfl)) (hts (.instanceMethod yJxc12de_init_da8c8) (List.mem_of_getElem? (i := 4) rfl)) rfl (by decide +kernel) ⟨(Nat.le_of_ble_eq_true rfl), (Nat.le_of_ble_eq_true rfl)⟩) ⟨qs_Pc.blind _ _ _ _, hG.pre _⟩ rfl rfl hl.1 rfl (lv_room (Nat.le_of_ble_eq_true rfl)) dJx4a65c_init_da8c8_1 ⟨Nat.zero_le _, Nat.zero_le _⟩) (fun S3 H locs h hG => ?_)
  refine lv_aload_n hx hb dJx4a65c_init_da8c8_4 rfl (lv_at hl 0 rfl) ?_
  refine qr_empty hx hb hG hown (hts (.fieldLink RJx4a65c 39 "java/util/ArrayList" "DEFAULTCAPACITY_EMPTY_ELEMENTDATA" "[Ljava/lang/Object;") (List.mem_of_getElem? (i := 1) rfl)) (fun _ h9 => h9) dJx4a65c_init_da8c8_5 ?_
  obtain ⟨⟨hL4, fK5⟩, h⟩ := h
  refine qr_putR (C := RJx4a65c) (T := TJx4a65c) (N := 3) (ci := 0) hx hb hts in0 tyJx4a65c tyJx4a65c_ok nmJx4a65c hown hG hL4 fK5 (by decide) rfl 1 (by decide) rfl (hts (.fieldLink RJx4a65c 9 "java/util/ArrayList" "elementData" "[Ljava/lang/Object;") (List.mem_of_getElem? (i := 2) rfl)) (fun _ h9 => h9) rfl (x := some g.2.2.2.2.2.2.1) rfl (tyJx4a65c_ok 1 (by decide)) rfl rfl dJx4a65c_init_da8c8_8 (fun H locs hG => ?_)
  exact qe_v hx hb hr hlk hG h (Nat.le_refl _) (Nat.le_refl _) dJx4a65c_init_da8c8_11
def wp_J8_newLength_cabcc_b21 (t0 m9 : Nat) (post : Int32 → qs_S → Prop) (S : qs_S) (x0 : Int32) (x1 : Int32) : Prop := False
def wp_J8_newLength_cabcc (t0 m9 : Nat) (post : Int32 → qs_S → Prop) (SA : qs_S) (x0z : Int32) (x1z : Int32) (x2z : Int32) : Prop := ∀ v1 : Int32, v1 = (if x1z < x2z then x2z else x1z) → ∀ v2 : Int32, v2 = x0z + v1 → (v2 ≤ (0 : Int32) → (wp_J8_newLength_cabcc_b21 t0 m9 post SA x0z x1z)) ∧ (¬ v2 ≤ (0 : Int32) → (((2147483639 : Int32) < v2 → (wp_J8_newLength_cabcc_b21 t0 m9 post SA x0z x1z)) ∧ (¬ (2147483639 : Int32) < v2 → (post v2 SA))))
set_option maxHeartbeats 4000000 in
set_option maxRecDepth 100000 in
theorem c_J8_newLength_cabcc (l : Launch) (g : qs_G) (sz : Nat) (SA : qs_S) (x0z : Int32) (x1z : Int32) (x2z : Int32) {post : Int32 → qs_S → Prop} (h : wp_J8_newLength_cabcc g.2.2.2.2.2.2.1 g.2.2.2.2.2.2.2 post SA x0z x1z x2z) : Met l yJ8_newLength_cabcc wsJ8_newLength_cabcc ({ frames := 1, cells := 0, slots := 0, locals := 40 } : Room) (qs_Pc g sz SA [.int x0z, .int x1z, .int x2z]) (qs_Qi g (qs_F g SA sz) post) 0 0 (qs_F g SA sz) := by
  refine Met.ofW (cc := cJ8_newLength_cabcc) (maxL := 4) (ret := (some .int)) (by decide +kernel) rfl ?_
  intro p e s m args below meth c s₁ B hml hv
  obtain ⟨rfl, hsz, hG⟩ := qs_Gd.start hv
  subst hsz
  have hx := B.exec
  have hb := B.bytes
  have hr := B.returns
  have hts := atoms_spec (ws := wsJ8_newLength_cabcc) B.pre
  have hown : s.vm.findClass RJ8 = some m.cls := findClass_of_methodNamed B.named
  have hlk := B.notSynchronized
  have b21 : ∀ (S : qs_S) (x0 : Int32) (x1 : Int32) (H : Heap) (locs : List Loc) (ls : Array Slot), wp_J8_newLength_cabcc_b21 g.2.2.2.2.2.2.1 g.2.2.2.2.2.2.2 post S x0 x1 → qs_Gd g (qs_F g SA s.heap.size) s S H locs → lv_has ls 4 [(0, .int x0), (1, .int x1)] → W p l e (headSpec wsJ8_newLength_cabcc ({ frames := 1, cells := 0, slots := 0, locals := 40 } : Room)).room s m (([.int x0z, .int x1z, .int x2z] : List Value)).toArray below meth c H locs 0 0 (MQ below (qs_Qi g (qs_F g SA s.heap.size) post) (([.int x0z, .int x1z, .int x2z] : List Value)).toArray s 0 0 (qs_F g SA s.heap.size)) (F0 m 21 ls []) := by
    intro S x0 x1 H locs ls h hG hl
    unfold wp_J8_newLength_cabcc_b21 at h
    refine lv_iload_n hx hb dJ8_newLength_cabcc_21 rfl (lv_at hl 0 rfl) ?_
    refine lv_iload_n hx hb dJ8_newLength_cabcc_22 rfl (lv_at hl 1 rfl) ?_
    exact h.elim
  have hl := lv_entry ([.int x0z, .int x1z, .int x2z]) (n := 4) (Nat.le_of_ble_eq_true rfl)
  rw [lg_entry_eq]
  generalize (lg_sl ([.int x0z, .int x1z, .int x2z]) ++ List.replicate (4 - (lg_sl ([.int x0z, .int x1z, .int x2z])).length) Slot.unset).toArray = ls at hl ⊢
  have hl : lv_has ls 4 [(0, .int x0z), (1, .int x1z), (2, .int x2z)] := hl
  unfold wp_J8_newLength_cabcc at h
  refine lv_iload_n hx hb dJ8_newLength_cabcc_0 rfl (lv_at hl 0 rfl) ?_
  refine lv_iload_n hx hb dJ8_newLength_cabcc_1 rfl (lv_at hl 1 rfl) ?_
  refine lv_iload_n hx hb dJ8_newLength_cabcc_2 rfl (lv_at hl 2 rfl) ?_
  refine va_mmax hx hb (hml.trans hl.1.symm) hown (hts (.methodLink RJ8 194 Lib.Math.max.name) (List.mem_of_getElem? (i := 1) rfl)) (hts (.static Lib.Math.max.name) (List.mem_of_getElem? (i := 2) rfl)) (hts (.initialized "java/lang/Math") (List.mem_of_getElem? (i := 3) rfl)) (hts (.code Lib.Math.max.name Lib.Math.max.code 2 (some .int)) (List.mem_of_getElem? (i := 4) rfl)) (Nat.le_of_ble_eq_true rfl) (Nat.le_of_ble_eq_true rfl) (Nat.zero_le _) (Nat.zero_le _) dJ8_newLength_cabcc_3 ?_
  refine lv_topi (fun v1 ev1 => ?_)
  have h := h v1 ev1
  refine lv_iadd hx hb dJ8_newLength_cabcc_6 ?_
  refine lv_topi (fun v2 ev2 => ?_)
  have h := h v2 ev2
  refine lv_istore_n (lv' := [(3, .int v2), (0, .int x0z), (1, .int x1z), (2, .int x2z)]) hx hb dJ8_newLength_cabcc_7 rfl hl (by decide) rfl (fun ls hl => ?_)
  refine lv_iconst (v := (0 : Int32)) hx hb dJ8_newLength_cabcc_8 (by decide +kernel) ?_
  refine lv_iload_n hx hb dJ8_newLength_cabcc_9 rfl (lv_at hl 0 rfl) ?_
  refine lv_icmp_ge (tgt := 21) hx hb dJ8_newLength_cabcc_10 (by decide) (fun c3 => ?_) (fun c3 => ?_)
  · have h := h.1 c3
    exact b21 SA x0z x1z _ _ ls h hG (lv_sub hl [1, 2] rfl)
  · have h := h.2 c3
    refine lv_iload_n hx hb dJ8_newLength_cabcc_13 rfl (lv_at hl 0 rfl) ?_
    refine lv_ldc hx hb hown (hts (.constant RJ8 200 (2147483639)) (List.mem_of_getElem? (i := 5) rfl)) dJ8_newLength_cabcc_14 ?_
    refine lv_icmp_gt (tgt := 21) hx hb dJ8_newLength_cabcc_16 (by decide) (fun c4 => ?_) (fun c4 => ?_)
    · have h := h.1 c4
      exact b21 SA x0z x1z _ _ ls h hG (lv_sub hl [1, 2] rfl)
    · have h := h.2 c4
      refine lv_iload_n hx hb dJ8_newLength_cabcc_19 rfl (lv_at hl 0 rfl) ?_
      exact qe_i hx hb hr hlk hG h (Nat.le_refl _) (Nat.le_refl _) dJ8_newLength_cabcc_20
def wp_J7_copyOf_6403c (t0 m9 : Nat) (mc ms : Nat) (post : Option Nat → qs_S → Prop) (SA : qs_S) (a0z : Nat) (x1z : Int32) (a2z : Nat) : Prop := (¬ a2z = m9 → (False)) ∧ (a2z = m9 → (((0 + 1 ≤ mc ∧ 0 + x1z.toNatClampNeg ≤ ms) ∧ ¬ x1z < 0 ∧ x1z.toNatClampNeg * 4 ≤ 536870912) ∧ (∀ q3 : Nat, q3 ∉ qs_L SA → q3 ≠ t0 → (a0z = t0 ∨ (a0z ∈ qs_L (qs_nA SA q3 10 x1z.toNatClampNeg) ∧ qs_K (qs_nA SA q3 10 x1z.toNatClampNeg) a0z = 10)) ∧ (∀ v9 : Int32, v9 = nI (qs_len t0 (qs_nA SA q3 10 x1z.toNatClampNeg) a0z) → ∀ v10 : Int32, v10 = (if x1z < v9 then x1z else v9) → (a0z ∈ qs_L (qs_nA SA q3 10 x1z.toNatClampNeg) ∧ qs_K (qs_nA SA q3 10 x1z.toNatClampNeg) a0z = 10) ∧ ((¬ (0 : Int32) < 0 ∧ ¬ (0 : Int32) < 0 ∧ ¬ v10 < 0 ∧ (0 : Int32).toNatClampNeg + v10.toNatClampNeg ≤ qs_Z (qs_nA SA q3 10 x1z.toNatClampNeg) a0z ∧ (0 : Int32).toNatClampNeg + v10.toNatClampNeg ≤ qs_Z (qs_nA SA q3 10 x1z.toNatClampNeg) q3 ∧ ∀ i : Nat, i < v10.toNatClampNeg → ∀ y : Nat, qs_O (qs_nA SA q3 10 x1z.toNatClampNeg) a0z ((0 : Int32).toNatClampNeg + i) = some y → y ∈ qs_L (qs_nA SA q3 10 x1z.toNatClampNeg) ∧ qs_K (qs_nA SA q3 10 x1z.toNatClampNeg) y < 8) ∧ (post (some q3) (qs_cO (qs_nA SA q3 10 x1z.toNatClampNeg) a0z q3 (0 : Int32).toNatClampNeg (0 : Int32).toNatClampNeg v10.toNatClampNeg)))))))
set_option maxHeartbeats 4000000 in
set_option maxRecDepth 100000 in
theorem c_J7_copyOf_6403c (l : Launch) (g : qs_G) (sz : Nat) (SA : qs_S) (a0z : Nat) (x1z : Int32) (a2z : Nat) {mc ms : Nat} {post : Option Nat → qs_S → Prop} (h : wp_J7_copyOf_6403c g.2.2.2.2.2.2.1 g.2.2.2.2.2.2.2 mc ms post SA a0z x1z a2z) : Met l yJ7_copyOf_6403c wsJ7_copyOf_6403c ({ frames := 1, cells := mc, slots := ms, locals := 60 } : Room) (qs_Pc g sz SA [.ref a0z, .int x1z, .ref a2z]) (qs_Qq g (qs_F g SA sz) post) mc ms (qs_F g SA sz) := by
  refine Met.ofW (cc := cJ7_copyOf_6403c) (maxL := 4) (ret := (some (.array (.object "java/lang/Object")))) (by decide +kernel) rfl ?_
  intro p e s m args below meth c s₁ B hml hv
  obtain ⟨rfl, hsz, hG⟩ := qs_Gd.start hv
  subst hsz
  have hx := B.exec
  have hb := B.bytes
  have hr := B.returns
  have hts := atoms_spec (ws := wsJ7_copyOf_6403c) B.pre
  have hown : s.vm.findClass RJ7 = some m.cls := findClass_of_methodNamed B.named
  have hlk := B.notSynchronized
  have hkc : 0 ≤ mc := Nat.zero_le _
  have hks : 0 ≤ ms := Nat.zero_le _
  have hmR : mc ≤ (headSpec wsJ7_copyOf_6403c ({ frames := 1, cells := mc, slots := ms, locals := 60 } : Room)).room.cells := Nat.le_refl _
  have hsR : ms ≤ (headSpec wsJ7_copyOf_6403c ({ frames := 1, cells := mc, slots := ms, locals := 60 } : Room)).room.slots := Nat.le_refl _
  have hao := hG.2.2.2.2.2.2.2.2.2.2.2.2.2.1.1
  have hmi := hG.2.2.2.2.2.2.2.2.2.1
  have hl := lv_entry ([.ref a0z, .int x1z, .ref a2z]) (n := 4) (Nat.le_of_ble_eq_true rfl)
  rw [lg_entry_eq]
  generalize (lg_sl ([.ref a0z, .int x1z, .ref a2z]) ++ List.replicate (4 - (lg_sl ([.ref a0z, .int x1z, .ref a2z])).length) Slot.unset).toArray = ls at hl ⊢
  have hl : lv_has ls 4 [(0, .ref a0z), (1, .int x1z), (2, .ref a2z)] := hl
  unfold wp_J7_copyOf_6403c at h
  refine lv_aload_n hx hb dJ7_copyOf_6403c_0 rfl (lv_at hl 2 rfl) ?_
  refine va_ldcM hx hb hown (hts (.classLink RJ7 110 "[Ljava/lang/Object;") (List.mem_of_getElem? (i := 1) rfl)) hmi dJ7_copyOf_6403c_1 ?_
  refine lv_acmp_ne (rx := (some a2z)) (ry := (some g.2.2.2.2.2.2.2)) (tgt := 13) hx hb dJ7_copyOf_6403c_3 (by decide) (fun c2 => ?_) (fun c2 => ?_)
  · have h := h.1 (fun z => c2 (congrArg some z))
    refine lv_aload_n hx hb dJ7_copyOf_6403c_13 rfl (lv_at hl 2 rfl) ?_
    exact h.elim
  · have h := h.2 (Option.some.inj c2)
    refine lv_iload_n hx hb dJ7_copyOf_6403c_6 rfl (lv_at hl 1 rfl) ?_
    obtain ⟨⟨⟨hs4c, hs4s⟩, hs4n, hs4b⟩, h⟩ := h
    refine qr_newO hx hb hown (hts (.classLink RJ7 2 "java/lang/Object") (List.mem_of_getElem? (i := 2) rfl)) hao hG hs4n rfl hs4b (Nat.le_trans hs4c hmR) (Nat.le_trans hs4s hsR) dJ7_copyOf_6403c_7 (fun q3 H hq5 hq5t hG => ?_)
    have hkc := hs4c
    have hks := hs4s
    have h := h q3 hq5 hq5t
    have hL6 := qs_nAN (S := SA) (q := q3) (ci := 10) (n := x1z.toNatClampNeg)
    have fK7 := qs_nAM (S := SA) (q := q3) (ci := 10) (n := x1z.toNatClampNeg)
    refine lv_goto (tgt := 24) hx hb dJ7_copyOf_6403c_10 (by decide) ?_
    refine lv_astore_n (lv' := [(3, .ref q3), (0, .ref a0z), (1, .int x1z), (2, .ref a2z)]) hx hb dJ7_copyOf_6403c_24 rfl hl (by decide) rfl (fun ls hl => ?_)
    refine lv_aload_n hx hb dJ7_copyOf_6403c_25 rfl (lv_at hl 1 rfl) ?_
    refine lv_iconst (v := (0 : Int32)) hx hb dJ7_copyOf_6403c_26 (by decide +kernel) ?_
    refine lv_aload_n hx hb dJ7_copyOf_6403c_27 rfl (lv_at hl 0 rfl) ?_
    refine lv_iconst (v := (0 : Int32)) hx hb dJ7_copyOf_6403c_28 (by decide +kernel) ?_
    refine lv_aload_n hx hb dJ7_copyOf_6403c_29 rfl (lv_at hl 1 rfl) ?_
    obtain ⟨hL8, h⟩ := h
    refine qr_alen hx hb hG hL8 dJ7_copyOf_6403c_30 ?_
    refine lv_topi (fun v9 ev9 => ?_)
    have h := h v9 ev9
    refine lv_iload_n hx hb dJ7_copyOf_6403c_31 rfl (lv_at hl 2 rfl) ?_
    refine va_mmin hx hb (hml.trans hl.1.symm) hown (hts (.methodLink RJ7 304 Lib.Math.min.name) (List.mem_of_getElem? (i := 3) rfl)) (hts (.static Lib.Math.min.name) (List.mem_of_getElem? (i := 4) rfl)) (hts (.initialized "java/lang/Math") (List.mem_of_getElem? (i := 5) rfl)) (hts (.code Lib.Math.min.name Lib.Math.min.code 2 (some .int)) (List.mem_of_getElem? (i := 6) rfl)) (Nat.le_of_ble_eq_true rfl) (Nat.le_of_ble_eq_true rfl) (Nat.le_trans hkc hmR) (Nat.le_trans hks hsR) dJ7_copyOf_6403c_32 ?_
    refine lv_topi (fun v10 ev10 => ?_)
    have h := h v10 ev10
    obtain ⟨⟨hL11, fK12⟩, h⟩ := h
    obtain ⟨⟨u131, u132, u133, u134, u135, u136⟩, h⟩ := h
    refine qr_copy hx hb (hml.trans hl.1.symm) hown (hts (.methodLink RJ7 150 arraycopyName) (List.mem_of_getElem? (i := 7) rfl)) (hts (.native arraycopyName) (List.mem_of_getElem? (i := 8) rfl)) (hts (.static arraycopyName) (List.mem_of_getElem? (i := 9) rfl)) (hts (.initialized "java/lang/System") (List.mem_of_getElem? (i := 10) rfl)) hG hL11 fK12 hL6 fK7 u131 u132 u133 u134 u135 u136 (Nat.le_of_ble_eq_true rfl) (Nat.le_of_ble_eq_true rfl) dJ7_copyOf_6403c_35 (fun H locs hG => ?_)
    refine lv_aload_n hx hb dJ7_copyOf_6403c_38 rfl (lv_at hl 0 rfl) ?_
    exact qe_q (o := (some q3)) hx hb hr hlk rfl (Or.inr ⟨_, rfl⟩) hG h hkc hks dJ7_copyOf_6403c_39
def wp_J7_copyOf_1904c (t0 m9 : Nat) (mc ms : Nat) (post : Option Nat → qs_S → Prop) (SA : qs_S) (a0z : Nat) (x1z : Int32) : Prop := (a0z ∈ qs_L SA ∧ qs_K SA a0z = 10) ∧ (∃ mck3 msk3 : Nat, (0 + mck3 ≤ mc ∧ 0 + msk3 ≤ ms) ∧ (wp_J7_copyOf_6403c t0 m9 mck3 msk3 (fun (o6 : Option Nat) (S5 : qs_S) => ∃ q7 : Nat, o6 = some q7 ∧ (post (some q7) S5)) SA a0z x1z m9))
set_option maxHeartbeats 4000000 in
set_option maxRecDepth 100000 in
theorem c_J7_copyOf_1904c (l : Launch) (g : qs_G) (sz : Nat) (SA : qs_S) (a0z : Nat) (x1z : Int32) {mc ms : Nat} {post : Option Nat → qs_S → Prop} (h : wp_J7_copyOf_1904c g.2.2.2.2.2.2.1 g.2.2.2.2.2.2.2 mc ms post SA a0z x1z) : Met l yJ7_copyOf_1904c wsJ7_copyOf_1904c ({ frames := 2, cells := mc, slots := ms, locals := 83 } : Room) (qs_Pc g sz SA [.ref a0z, .int x1z]) (qs_Qq g (qs_F g SA sz) post) mc ms (qs_F g SA sz) := by
  refine Met.ofW (cc := cJ7_copyOf_1904c) (maxL := 2) (ret := (some (.array (.object "java/lang/Object")))) (by decide +kernel) rfl ?_
  intro p e s m args below meth c s₁ B hml hv
  obtain ⟨rfl, hsz, hG⟩ := qs_Gd.start hv
  subst hsz
  have hx := B.exec
  have hb := B.bytes
  have hr := B.returns
  have hts := atoms_spec (ws := wsJ7_copyOf_1904c) B.pre
  have hown : s.vm.findClass RJ7 = some m.cls := findClass_of_methodNamed B.named
  have hlk := B.notSynchronized
  have hkc : 0 ≤ mc := Nat.zero_le _
  have hks : 0 ≤ ms := Nat.zero_le _
  have hmR : mc ≤ (headSpec wsJ7_copyOf_1904c ({ frames := 2, cells := mc, slots := ms, locals := 83 } : Room)).room.cells := Nat.le_refl _
  have hsR : ms ≤ (headSpec wsJ7_copyOf_1904c ({ frames := 2, cells := mc, slots := ms, locals := 83 } : Room)).room.slots := Nat.le_refl _
  have hl := lv_entry ([.ref a0z, .int x1z]) (n := 2) (Nat.le_of_ble_eq_true rfl)
  rw [lg_entry_eq]
  generalize (lg_sl ([.ref a0z, .int x1z]) ++ List.replicate (2 - (lg_sl ([.ref a0z, .int x1z])).length) Slot.unset).toArray = ls at hl ⊢
  have hl : lv_has ls 2 [(0, .ref a0z), (1, .int x1z)] := hl
  unfold wp_J7_copyOf_1904c at h
  refine lv_aload_n hx hb dJ7_copyOf_1904c_0 rfl (lv_at hl 0 rfl) ?_
  refine lv_iload_n hx hb dJ7_copyOf_1904c_1 rfl (lv_at hl 1 rfl) ?_
  refine lv_aload_n hx hb dJ7_copyOf_1904c_2 rfl (lv_at hl 0 rfl) ?_
  obtain ⟨⟨hL1, fK2⟩, h⟩ := h
  refine va_getC hx hb (hml.trans hl.1.symm) hown (hts (.methodLink RJ7 86 ⟨"java/lang/Object", "getClass", "()Ljava/lang/Class;"⟩) (List.mem_of_getElem? (i := 1) rfl)) (va_Dc.use hG.2.2.2.2.2.2.2.2.2.2.1) (hts (.selects "[Ljava/lang/Object;" ⟨"java/lang/Object", "getClass", "()Ljava/lang/Class;"⟩ ⟨"java/lang/Object", "getClass", "()Ljava/lang/Class;"⟩) (List.mem_of_getElem? (i := 2) rfl)) (hts (.instanceMethod ⟨"java/lang/Object", "getClass", "()Ljava/lang/Class;"⟩) (List.mem_of_getElem? (i := 3) rfl)) (hts (.native ⟨"java/lang/Object", "getClass", "()Ljava/lang/Class;"⟩) (List.mem_of_getElem? (i := 4) rfl)) hG.2.2.2.2.2.2.2.2.2.1 (hG.recvO hL1 fK2) (Nat.le_of_ble_eq_true rfl) (Nat.le_of_ble_eq_true rfl) dJ7_copyOf_1904c_3 ?_
  obtain ⟨mck3, msk3, ⟨hs4c, hs4s⟩, h⟩ := h
  refine qc_q hG (va_runS (As := [.ref a0z, .int x1z, .ref g.2.2.2.2.2.2.2]) (rest := []) ⟨hx, hb, hml, hown, hts⟩ (c_J7_copyOf_6403c l g _ SA a0z x1z g.2.2.2.2.2.2.2 h) (va_cwS 3 hts gJ7_copyOf_1904c_J7_copyOf_6403c rfl rfl rfl (by decide +kernel) ⟨(Nat.le_of_ble_eq_true rfl), (Nat.le_of_ble_eq_true rfl)⟩) ⟨qs_Pc.blind _ _ _ _, hG.pre _⟩ rfl rfl hl.1 rfl (lv_room (Nat.le_of_ble_eq_true rfl)) dJ7_copyOf_1904c_6 ⟨Nat.le_trans hs4c hmR, Nat.le_trans hs4s hsR⟩) (fun o6 S5 H locs h hG => ?_)
  have hkc := hs4c
  have hks := hs4s
  obtain ⟨q7, rfl, h⟩ := h
  exact qe_q (o := (some q7)) hx hb hr hlk rfl (Or.inr ⟨_, rfl⟩) hG h hkc hks dJ7_copyOf_1904c_9
def wp_Jx4a65c_grow_92f84_b20 (t0 m9 : Nat) (mc ms : Nat) (post : Option Nat → qs_S → Prop) (k n : Nat) (S : qs_S) (a0 : Nat) (x1 : Int32) (x2 : Int32) : Prop := ∀ v1 : Int32, v1 = x1 - x2 → ∀ v2 : Int32, v2 = x2 >>> ((1 : Int32) &&& 31) → wp_J8_newLength_cabcc t0 m9 (fun (v6 : Int32) (S5 : qs_S) => (a0 ∈ qs_L S5 ∧ qs_K S5 a0 = 0) ∧ (∃ q9 : Nat, qs_R S5 1 a0 = some q9 ∧ (∃ mck10 msk10 : Nat, (k + mck10 ≤ mc ∧ n + msk10 ≤ ms) ∧ (wp_J7_copyOf_1904c t0 m9 mck10 msk10 (fun (o13 : Option Nat) (S12 : qs_S) => ∃ q14 : Nat, o13 = some q14 ∧ ((a0 ∈ qs_L S12 ∧ qs_K S12 a0 = 0) ∧ (post (some q14) (qs_wR S12 1 a0 (some q14))))) S5 q9 v6)))) S x2 v1 v2
def wp_Jx4a65c_grow_92f84 (t0 m9 : Nat) (mc ms : Nat) (post : Option Nat → qs_S → Prop) (SA : qs_S) (a0z : Nat) (x1z : Int32) : Prop := (a0z ∈ qs_L SA ∧ qs_K SA a0z = 0) ∧ (∃ q19 : Nat, qs_R SA 1 a0z = some q19 ∧ ((q19 = t0 ∨ (q19 ∈ qs_L SA ∧ qs_K SA q19 = 10)) ∧ (∀ v21 : Int32, v21 = nI (qs_len t0 SA q19) → (0 < v21 → (wp_Jx4a65c_grow_92f84_b20 t0 m9 mc ms post 0 0 SA a0z x1z v21)) ∧ (¬ 0 < v21 → (∃ q23 : Nat, qs_R SA 1 a0z = some q23 ∧ ((q23 = t0 → (∀ v25 : Int32, v25 = (if (10 : Int32) < x1z then x1z else (10 : Int32)) → ((0 + 1 ≤ mc ∧ 0 + v25.toNatClampNeg ≤ ms) ∧ ¬ v25 < 0 ∧ v25.toNatClampNeg * 4 ≤ 536870912) ∧ (∀ q26 : Nat, q26 ∉ qs_L SA → q26 ≠ t0 → post (some q26) (qs_wR (qs_nA SA q26 10 v25.toNatClampNeg) 1 a0z (some q26))))) ∧ (¬ q23 = t0 → (wp_Jx4a65c_grow_92f84_b20 t0 m9 mc ms post 0 0 SA a0z x1z v21))))))))
set_option maxHeartbeats 4000000 in
set_option maxRecDepth 100000 in
theorem c_Jx4a65c_grow_92f84 (l : Launch) (g : qs_G) (sz : Nat) (SA : qs_S) (a0z : Nat) (x1z : Int32) {mc ms : Nat} {post : Option Nat → qs_S → Prop} (h : wp_Jx4a65c_grow_92f84 g.2.2.2.2.2.2.1 g.2.2.2.2.2.2.2 mc ms post SA a0z x1z) : Met l yJx4a65c_grow_92f84 wsJx4a65c_grow_92f84 ({ frames := 3, cells := mc, slots := ms, locals := 104 } : Room) (qs_Pc g sz SA [.ref a0z, .int x1z]) (qs_Qq g (qs_F g SA sz) post) mc ms (qs_F g SA sz) := by
  refine Met.ofW (cc := cJx4a65c_grow_92f84) (maxL := 4) (ret := (some (.array (.object "java/lang/Object")))) (by decide +kernel) rfl ?_
  intro p e s m args below meth c s₁ B hml hv
  obtain ⟨rfl, hsz, hG⟩ := qs_Gd.start hv
  subst hsz
  have hx := B.exec
  have hb := B.bytes
  have hr := B.returns
  have hts := atoms_spec (ws := wsJx4a65c_grow_92f84) B.pre
  have hown : s.vm.findClass RJx4a65c = some m.cls := findClass_of_methodNamed B.named
  have hlk := B.notSynchronized
  have in0 : ∀ w ∈ u_ws RJx4a65c TJx4a65c 3, w ∈ wsJx4a65c_grow_92f84 := fun w h => List.mem_cons_of_mem _ (List.mem_append_right _ (h))
  have hkc : 0 ≤ mc := Nat.zero_le _
  have hks : 0 ≤ ms := Nat.zero_le _
  have hmR : mc ≤ (headSpec wsJx4a65c_grow_92f84 ({ frames := 3, cells := mc, slots := ms, locals := 104 } : Room)).room.cells := Nat.le_refl _
  have hsR : ms ≤ (headSpec wsJx4a65c_grow_92f84 ({ frames := 3, cells := mc, slots := ms, locals := 104 } : Room)).room.slots := Nat.le_refl _
  have hao := hG.2.2.2.2.2.2.2.2.2.2.2.2.2.1.1
  have b20 : ∀ (S : qs_S) (a0 : Nat) (x1 : Int32) (x2 : Int32) (H : Heap) (locs : List Loc) (k n : Nat) (ls : Array Slot), k ≤ mc → n ≤ ms → wp_Jx4a65c_grow_92f84_b20 g.2.2.2.2.2.2.1 g.2.2.2.2.2.2.2 mc ms post k n S a0 x1 x2 → qs_Gd g (qs_F g SA s.heap.size) s S H locs → lv_has ls 4 [(0, .ref a0), (1, .int x1), (2, .int x2)] → W p l e (headSpec wsJx4a65c_grow_92f84 ({ frames := 3, cells := mc, slots := ms, locals := 104 } : Room)).room s m (([.ref a0z, .int x1z] : List Value)).toArray below meth c H locs k n (MQ below (qs_Qq g (qs_F g SA s.heap.size) post) (([.ref a0z, .int x1z] : List Value)).toArray s mc ms (qs_F g SA s.heap.size)) (F0 m 20 ls []) := by
    intro S a0 x1 x2 H locs k n ls hkc hks h hG hl
    unfold wp_Jx4a65c_grow_92f84_b20 at h
    refine lv_iload_n hx hb dJx4a65c_grow_92f84_20 rfl (lv_at hl 2 rfl) ?_
    refine lv_iload_n hx hb dJx4a65c_grow_92f84_21 rfl (lv_at hl 1 rfl) ?_
    refine lv_iload_n hx hb dJx4a65c_grow_92f84_22 rfl (lv_at hl 2 rfl) ?_
    refine lv_isub hx hb dJx4a65c_grow_92f84_23 ?_
    refine lv_topi (fun v1 ev1 => ?_)
    have h := h v1 ev1
    refine lv_iload_n hx hb dJx4a65c_grow_92f84_24 rfl (lv_at hl 2 rfl) ?_
    refine lv_iconst (v := (1 : Int32)) hx hb dJx4a65c_grow_92f84_25 (by decide +kernel) ?_
    refine lv_ishr hx hb dJx4a65c_grow_92f84_26 ?_
    refine lv_topi (fun v2 ev2 => ?_)
    have h := h v2 ev2
    refine qc_i hG (va_runS (As := [.int x2, .int v1, .int v2]) (rest := []) ⟨hx, hb, hml, hown, hts⟩ (c_J8_newLength_cabcc l g _ S x2 v1 v2 h) (va_cwS 3 hts gJx4a65c_grow_92f84_J8_newLength_cabcc rfl rfl rfl (by decide +kernel) ⟨(Nat.le_of_ble_eq_true rfl), (Nat.le_of_ble_eq_true rfl)⟩) ⟨qs_Pc.blind _ _ _ _, hG.pre _⟩ rfl rfl hl.1 rfl (lv_room (Nat.le_of_ble_eq_true rfl)) dJx4a65c_grow_92f84_27 ⟨Nat.le_trans hkc hmR, Nat.le_trans hks hsR⟩) (fun v6 S5 H locs h hG => ?_)
    refine lv_istore_n (lv' := [(3, .int v6), (0, .ref a0), (1, .int x1), (2, .int x2)]) hx hb dJx4a65c_grow_92f84_30 rfl hl (by decide) rfl (fun ls hl => ?_)
    refine lv_aload_n hx hb dJx4a65c_grow_92f84_31 rfl (lv_at hl 1 rfl) ?_
    refine lv_aload_n hx hb dJx4a65c_grow_92f84_32 rfl (lv_at hl 1 rfl) ?_
    obtain ⟨⟨hL7, fK8⟩, h⟩ := h
    obtain ⟨q9, eq9, h⟩ := h
    refine qr_get (C := RJx4a65c) (T := TJx4a65c) (N := 3) (ci := 0) hx hb hts in0 hown hG hL7 fK8 (by decide) rfl 1 (by decide) rfl (hts (.fieldLink RJx4a65c 9 "java/util/ArrayList" "elementData" "[Ljava/lang/Object;") (List.mem_of_getElem? (i := 1) rfl)) (fun _ h9 => h9) (v := .ref q9) (qs_rf eq9) dJx4a65c_grow_92f84_33 ?_
    refine lv_iload_n hx hb dJx4a65c_grow_92f84_36 rfl (lv_at hl 0 rfl) ?_
    obtain ⟨mck10, msk10, ⟨hs11c, hs11s⟩, h⟩ := h
    refine qc_q hG (va_runS (As := [.ref q9, .int v6]) (rest := [.ref a0]) ⟨hx, hb, hml, hown, hts⟩ (c_J7_copyOf_1904c l g _ S5 q9 v6 h) (va_cwS 2 hts gJx4a65c_grow_92f84_J7_copyOf_1904c rfl rfl rfl (by decide +kernel) ⟨(Nat.le_of_ble_eq_true rfl), (Nat.le_of_ble_eq_true rfl)⟩) ⟨qs_Pc.blind _ _ _ _, hG.pre _⟩ rfl rfl hl.1 rfl (lv_room (Nat.le_of_ble_eq_true rfl)) dJx4a65c_grow_92f84_37 ⟨Nat.le_trans hs11c hmR, Nat.le_trans hs11s hsR⟩) (fun o13 S12 H locs h hG => ?_)
    have hkc := hs11c
    have hks := hs11s
    obtain ⟨q14, rfl, h⟩ := h
    refine lv_dup_x1 hx hb dJx4a65c_grow_92f84_40 rfl rfl ?_
    obtain ⟨⟨hL15, fK16⟩, h⟩ := h
    refine qr_putR (C := RJx4a65c) (T := TJx4a65c) (N := 3) (ci := 0) hx hb hts in0 tyJx4a65c tyJx4a65c_ok nmJx4a65c hown hG hL15 fK16 (by decide) rfl 1 (by decide) rfl (hts (.fieldLink RJx4a65c 9 "java/util/ArrayList" "elementData" "[Ljava/lang/Object;") (List.mem_of_getElem? (i := 1) rfl)) (fun _ h9 => h9) rfl (x := some q14) rfl (tyJx4a65c_ok 1 (by decide)) rfl rfl dJx4a65c_grow_92f84_41 (fun H locs hG => ?_)
    exact qe_q (o := (some q14)) hx hb hr hlk rfl (Or.inr ⟨_, rfl⟩) hG h hkc hks dJx4a65c_grow_92f84_44
  have hl := lv_entry ([.ref a0z, .int x1z]) (n := 4) (Nat.le_of_ble_eq_true rfl)
  rw [lg_entry_eq]
  generalize (lg_sl ([.ref a0z, .int x1z]) ++ List.replicate (4 - (lg_sl ([.ref a0z, .int x1z])).length) Slot.unset).toArray = ls at hl ⊢
  have hl : lv_has ls 4 [(0, .ref a0z), (1, .int x1z)] := hl
  unfold wp_Jx4a65c_grow_92f84 at h
  refine lv_aload_n hx hb dJx4a65c_grow_92f84_0 rfl (lv_at hl 0 rfl) ?_
  obtain ⟨⟨hL17, fK18⟩, h⟩ := h
  obtain ⟨q19, eq19, h⟩ := h
  refine qr_get (C := RJx4a65c) (T := TJx4a65c) (N := 3) (ci := 0) hx hb hts in0 hown hG hL17 fK18 (by decide) rfl 1 (by decide) rfl (hts (.fieldLink RJx4a65c 9 "java/util/ArrayList" "elementData" "[Ljava/lang/Object;") (List.mem_of_getElem? (i := 1) rfl)) (fun _ h9 => h9) (v := .ref q19) (qs_rf eq19) dJx4a65c_grow_92f84_1 ?_
  obtain ⟨hL20, h⟩ := h
  refine qr_alen hx hb hG hL20 dJx4a65c_grow_92f84_4 ?_
  refine lv_topi (fun v21 ev21 => ?_)
  have h := h v21 ev21
  refine lv_istore_n (lv' := [(2, .int v21), (0, .ref a0z), (1, .int x1z)]) hx hb dJx4a65c_grow_92f84_5 rfl hl (by decide) rfl (fun ls hl => ?_)
  refine lv_iload_n hx hb dJx4a65c_grow_92f84_6 rfl (lv_at hl 0 rfl) ?_
  refine lv_if_gt (tgt := 20) hx hb dJx4a65c_grow_92f84_7 (by decide) (fun c22 => ?_) (fun c22 => ?_)
  · have h := h.1 c22
    exact b20 SA a0z x1z v21 _ _ 0 0 ls hkc hks h hG (lv_sub hl [1, 2, 0] rfl)
  · have h := h.2 c22
    refine lv_aload_n hx hb dJx4a65c_grow_92f84_10 rfl (lv_at hl 1 rfl) ?_
    obtain ⟨q23, eq23, h⟩ := h
    refine qr_get (C := RJx4a65c) (T := TJx4a65c) (N := 3) (ci := 0) hx hb hts in0 hown hG hL17 fK18 (by decide) rfl 1 (by decide) rfl (hts (.fieldLink RJx4a65c 9 "java/util/ArrayList" "elementData" "[Ljava/lang/Object;") (List.mem_of_getElem? (i := 1) rfl)) (fun _ h9 => h9) (v := .ref q23) (qs_rf eq23) dJx4a65c_grow_92f84_11 ?_
    refine qr_empty hx hb hG hown (hts (.fieldLink RJx4a65c 39 "java/util/ArrayList" "DEFAULTCAPACITY_EMPTY_ELEMENTDATA" "[Ljava/lang/Object;") (List.mem_of_getElem? (i := 2) rfl)) (fun _ h9 => h9) dJx4a65c_grow_92f84_14 ?_
    refine lv_acmp_eq (rx := (some q23)) (ry := (some g.2.2.2.2.2.2.1)) (tgt := 45) hx hb dJx4a65c_grow_92f84_17 (by decide) (fun c24 => ?_) (fun c24 => ?_)
    · have h := h.1 (Option.some.inj c24)
      refine lv_aload_n hx hb dJx4a65c_grow_92f84_45 rfl (lv_at hl 1 rfl) ?_
      refine lv_bipush (v := (10 : Int32)) hx hb dJx4a65c_grow_92f84_46 (by decide +kernel) ?_
      refine lv_iload_n hx hb dJx4a65c_grow_92f84_48 rfl (lv_at hl 2 rfl) ?_
      refine va_mmax hx hb (hml.trans hl.1.symm) hown (hts (.methodLink RJx4a65c 79 Lib.Math.max.name) (List.mem_of_getElem? (i := 3) rfl)) (hts (.static Lib.Math.max.name) (List.mem_of_getElem? (i := 4) rfl)) (hts (.initialized "java/lang/Math") (List.mem_of_getElem? (i := 5) rfl)) (hts (.code Lib.Math.max.name Lib.Math.max.code 2 (some .int)) (List.mem_of_getElem? (i := 6) rfl)) (Nat.le_of_ble_eq_true rfl) (Nat.le_of_ble_eq_true rfl) (Nat.le_trans hkc hmR) (Nat.le_trans hks hsR) dJx4a65c_grow_92f84_49 ?_
      refine lv_topi (fun v25 ev25 => ?_)
      have h := h v25 ev25
      obtain ⟨⟨⟨hs27c, hs27s⟩, hs27n, hs27b⟩, h⟩ := h
      refine qr_newO hx hb hown (hts (.classLink RJx4a65c 7 "java/lang/Object") (List.mem_of_getElem? (i := 7) rfl)) hao hG hs27n rfl hs27b (Nat.le_trans hs27c hmR) (Nat.le_trans hs27s hsR) dJx4a65c_grow_92f84_52 (fun q26 H hq28 hq28t hG => ?_)
      have hkc := hs27c
      have hks := hs27s
      have h := h q26 hq28 hq28t
      have hL29 := qs_nAL (S := SA) (q := q26) (ci := 10) (n := v25.toNatClampNeg) hL17
      have fK30 := qs_nAK (S := SA) (q := q26) (ci := 10) (n := v25.toNatClampNeg) hq28 hL17 fK18
      have hL31 := qs_nAN (S := SA) (q := q26) (ci := 10) (n := v25.toNatClampNeg)
      have fK32 := qs_nAM (S := SA) (q := q26) (ci := 10) (n := v25.toNatClampNeg)
      refine lv_dup_x1 hx hb dJx4a65c_grow_92f84_55 rfl rfl ?_
      refine qr_putR (C := RJx4a65c) (T := TJx4a65c) (N := 3) (ci := 0) hx hb hts in0 tyJx4a65c tyJx4a65c_ok nmJx4a65c hown hG hL29 fK30 (by decide) rfl 1 (by decide) rfl (hts (.fieldLink RJx4a65c 9 "java/util/ArrayList" "elementData" "[Ljava/lang/Object;") (List.mem_of_getElem? (i := 1) rfl)) (fun _ h9 => h9) rfl (x := some q26) rfl (tyJx4a65c_ok 1 (by decide)) rfl rfl dJx4a65c_grow_92f84_56 (fun H locs hG => ?_)
      exact qe_q (o := (some q26)) hx hb hr hlk rfl (Or.inr ⟨_, rfl⟩) hG h hkc hks dJx4a65c_grow_92f84_59
    · have h := h.2 (fun z => c24 (congrArg some z))
      exact b20 SA a0z x1z v21 _ _ 0 0 ls hkc hks h hG (lv_sub hl [1, 2, 0] rfl)
def wp_Jx4a65c_grow_d5877 (t0 m9 : Nat) (mc ms : Nat) (post : Option Nat → qs_S → Prop) (SA : qs_S) (a0z : Nat) : Prop := (a0z ∈ qs_L SA ∧ qs_K SA a0z = 0) ∧ (∀ v3 : Int32, v3 = qs_I SA 2 a0z → ∀ v4 : Int32, v4 = v3 + (1 : Int32) → ∃ mck5 msk5 : Nat, (0 + mck5 ≤ mc ∧ 0 + msk5 ≤ ms) ∧ (wp_Jx4a65c_grow_92f84 t0 m9 mck5 msk5 (fun (o8 : Option Nat) (S7 : qs_S) => ∃ q9 : Nat, o8 = some q9 ∧ (post (some q9) S7)) SA a0z v4))
set_option maxHeartbeats 4000000 in
set_option maxRecDepth 100000 in
theorem c_Jx4a65c_grow_d5877 (l : Launch) (g : qs_G) (sz : Nat) (SA : qs_S) (a0z : Nat) {mc ms : Nat} {post : Option Nat → qs_S → Prop} (h : wp_Jx4a65c_grow_d5877 g.2.2.2.2.2.2.1 g.2.2.2.2.2.2.2 mc ms post SA a0z) : Met l yJx4a65c_grow_d5877 wsJx4a65c_grow_d5877 ({ frames := 4, cells := mc, slots := ms, locals := 127 } : Room) (qs_Pc g sz SA [.ref a0z]) (qs_Qq g (qs_F g SA sz) post) mc ms (qs_F g SA sz) := by
  refine Met.ofW (cc := cJx4a65c_grow_d5877) (maxL := 1) (ret := (some (.array (.object "java/lang/Object")))) (by decide +kernel) rfl ?_
  intro p e s m args below meth c s₁ B hml hv
  obtain ⟨rfl, hsz, hG⟩ := qs_Gd.start hv
  subst hsz
  have hx := B.exec
  have hb := B.bytes
  have hr := B.returns
  have hts := atoms_spec (ws := wsJx4a65c_grow_d5877) B.pre
  have hown : s.vm.findClass RJx4a65c = some m.cls := findClass_of_methodNamed B.named
  have hlk := B.notSynchronized
  have in0 : ∀ w ∈ u_ws RJx4a65c TJx4a65c 3, w ∈ wsJx4a65c_grow_d5877 := fun w h => List.mem_cons_of_mem _ (List.mem_append_right _ (h))
  have hkc : 0 ≤ mc := Nat.zero_le _
  have hks : 0 ≤ ms := Nat.zero_le _
  have hmR : mc ≤ (headSpec wsJx4a65c_grow_d5877 ({ frames := 4, cells := mc, slots := ms, locals := 127 } : Room)).room.cells := Nat.le_refl _
  have hsR : ms ≤ (headSpec wsJx4a65c_grow_d5877 ({ frames := 4, cells := mc, slots := ms, locals := 127 } : Room)).room.slots := Nat.le_refl _
  have hl := lv_entry ([.ref a0z]) (n := 1) (Nat.le_of_ble_eq_true rfl)
  rw [lg_entry_eq]
  generalize (lg_sl ([.ref a0z]) ++ List.replicate (1 - (lg_sl ([.ref a0z])).length) Slot.unset).toArray = ls at hl ⊢
  have hl : lv_has ls 1 [(0, .ref a0z)] := hl
  unfold wp_Jx4a65c_grow_d5877 at h
  refine lv_aload_n hx hb dJx4a65c_grow_d5877_0 rfl (lv_at hl 0 rfl) ?_
  refine lv_aload_n hx hb dJx4a65c_grow_d5877_1 rfl (lv_at hl 0 rfl) ?_
  obtain ⟨⟨hL1, fK2⟩, h⟩ := h
  refine qr_get (C := RJx4a65c) (T := TJx4a65c) (N := 3) (ci := 0) hx hb hts in0 hown hG hL1 fK2 (by decide) rfl 2 (by decide) rfl (hts (.fieldLink RJx4a65c 48 "java/util/ArrayList" "size" "I") (List.mem_of_getElem? (i := 1) rfl)) (fun _ h9 => h9) (v := .int (qs_I SA 2 a0z)) rfl dJx4a65c_grow_d5877_2 ?_
  refine lv_topi (fun v3 ev3 => ?_)
  have h := h v3 ev3
  refine lv_iconst (v := (1 : Int32)) hx hb dJx4a65c_grow_d5877_5 (by decide +kernel) ?_
  refine lv_iadd hx hb dJx4a65c_grow_d5877_6 ?_
  refine lv_topi (fun v4 ev4 => ?_)
  have h := h v4 ev4
  obtain ⟨mck5, msk5, ⟨hs6c, hs6s⟩, h⟩ := h
  refine qc_q hG (va_runV (As := [.int v4]) (rest := []) ⟨hx, hb, hml, hown, hts⟩ (c_Jx4a65c_grow_92f84 l g _ SA a0z v4 h) (cwV 1 hts gJx4a65c_grow_d5877_Jx4a65c_grow_92f84 rfl rfl rfl (by decide +kernel) ⟨(Nat.le_of_ble_eq_true rfl), (Nat.le_of_ble_eq_true rfl)⟩) ⟨qs_Pc.blind _ _ _ _, hG.recv hL1 fK2 (by decide) rfl, hG.pre _⟩ rfl rfl hl.1 rfl (lv_room (Nat.le_of_ble_eq_true rfl)) dJx4a65c_grow_d5877_7 ⟨Nat.le_trans hs6c hmR, Nat.le_trans hs6s hsR⟩) (fun o8 S7 H locs h hG => ?_)
  have hkc := hs6c
  have hks := hs6s
  obtain ⟨q9, rfl, h⟩ := h
  exact qe_q (o := (some q9)) hx hb hr hlk rfl (Or.inr ⟨_, rfl⟩) hG h hkc hks dJx4a65c_grow_d5877_10
def wp_Jx4a65c_add_72be8_b11 (t0 m9 : Nat) (mc ms : Nat) (post : qs_S → Prop) (k n : Nat) (S : qs_S) (a0 : Nat) (a1 : Nat) (a2 : Nat) (x3 : Int32) : Prop := (a2 ∈ qs_L S ∧ qs_K S a2 = 10) ∧ (vp_in x3 (qs_Z S a2) ∧ ((a1 ∈ qs_L S ∧ qs_K S a1 < 8) ∧ (∀ v6 : Int32, v6 = x3 + (1 : Int32) → (a0 ∈ qs_L (qs_wO S a2 x3.toNatClampNeg (some a1)) ∧ qs_K (qs_wO S a2 x3.toNatClampNeg (some a1)) a0 = 0) ∧ (post (qs_wI (qs_wO S a2 x3.toNatClampNeg (some a1)) 2 a0 v6)))))
def wp_Jx4a65c_add_72be8 (t0 m9 : Nat) (mc ms : Nat) (post : qs_S → Prop) (SA : qs_S) (a0z : Nat) (a1z : Nat) (a2z : Nat) (x3z : Int32) : Prop := (a2z = t0 ∨ (a2z ∈ qs_L SA ∧ qs_K SA a2z = 10)) ∧ (∀ v10 : Int32, v10 = nI (qs_len t0 SA a2z) → (¬ x3z = v10 → (wp_Jx4a65c_add_72be8_b11 t0 m9 mc ms post 0 0 SA a0z a1z a2z x3z)) ∧ (x3z = v10 → ((a0z ∈ qs_L SA ∧ qs_K SA a0z = 0) ∧ (∃ mck12 msk12 : Nat, (0 + mck12 ≤ mc ∧ 0 + msk12 ≤ ms) ∧ (wp_Jx4a65c_grow_d5877 t0 m9 mck12 msk12 (fun (o17 : Option Nat) (S16 : qs_S) => ∃ q18 : Nat, o17 = some q18 ∧ (wp_Jx4a65c_add_72be8_b11 t0 m9 mc ms post (0 + mck12) (0 + msk12) S16 a0z a1z q18 x3z)) SA a0z)))))
set_option maxHeartbeats 4000000 in
set_option maxRecDepth 100000 in
theorem c_Jx4a65c_add_72be8 (l : Launch) (g : qs_G) (sz : Nat) (SA : qs_S) (a0z : Nat) (a1z : Nat) (a2z : Nat) (x3z : Int32) {mc ms : Nat} {post : qs_S → Prop} (h : wp_Jx4a65c_add_72be8 g.2.2.2.2.2.2.1 g.2.2.2.2.2.2.2 mc ms post SA a0z a1z a2z x3z) : Met l yJx4a65c_add_72be8 wsJx4a65c_add_72be8 ({ frames := 5, cells := mc, slots := ms, locals := 147 } : Room) (qs_Pc g sz SA [.ref a0z, .ref a1z, .ref a2z, .int x3z]) (qs_Qv g (qs_F g SA sz) post) mc ms (qs_F g SA sz) := by
  refine Met.ofW (cc := cJx4a65c_add_72be8) (maxL := 4) (ret := none) (by decide +kernel) rfl ?_
  intro p e s m args below meth c s₁ B hml hv
  obtain ⟨rfl, hsz, hG⟩ := qs_Gd.start hv
  subst hsz
  have hx := B.exec
  have hb := B.bytes
  have hr := B.returns
  have hts := atoms_spec (ws := wsJx4a65c_add_72be8) B.pre
  have hown : s.vm.findClass RJx4a65c = some m.cls := findClass_of_methodNamed B.named
  have hlk := B.notSynchronized
  have in0 : ∀ w ∈ u_ws RJx4a65c TJx4a65c 3, w ∈ wsJx4a65c_add_72be8 := fun w h => List.mem_cons_of_mem _ (List.mem_append_right _ (h))
  have hkc : 0 ≤ mc := Nat.zero_le _
  have hks : 0 ≤ ms := Nat.zero_le _
  have hmR : mc ≤ (headSpec wsJx4a65c_add_72be8 ({ frames := 5, cells := mc, slots := ms, locals := 147 } : Room)).room.cells := Nat.le_refl _
  have hsR : ms ≤ (headSpec wsJx4a65c_add_72be8 ({ frames := 5, cells := mc, slots := ms, locals := 147 } : Room)).room.slots := Nat.le_refl _
  have b11 : ∀ (S : qs_S) (a0 : Nat) (a1 : Nat) (a2 : Nat) (x3 : Int32) (H : Heap) (locs : List Loc) (k n : Nat) (ls : Array Slot), k ≤ mc → n ≤ ms → wp_Jx4a65c_add_72be8_b11 g.2.2.2.2.2.2.1 g.2.2.2.2.2.2.2 mc ms post k n S a0 a1 a2 x3 → qs_Gd g (qs_F g SA s.heap.size) s S H locs → lv_has ls 4 [(0, .ref a0), (1, .ref a1), (2, .ref a2), (3, .int x3)] → W p l e (headSpec wsJx4a65c_add_72be8 ({ frames := 5, cells := mc, slots := ms, locals := 147 } : Room)).room s m (([.ref a0z, .ref a1z, .ref a2z, .int x3z] : List Value)).toArray below meth c H locs k n (MQ below (qs_Qv g (qs_F g SA s.heap.size) post) (([.ref a0z, .ref a1z, .ref a2z, .int x3z] : List Value)).toArray s mc ms (qs_F g SA s.heap.size)) (F0 m 11 ls []) := by
    intro S a0 a1 a2 x3 H locs k n ls hkc hks h hG hl
    unfold wp_Jx4a65c_add_72be8_b11 at h
    refine lv_aload_n hx hb dJx4a65c_add_72be8_11 rfl (lv_at hl 2 rfl) ?_
    refine lv_iload_n hx hb dJx4a65c_add_72be8_12 rfl (lv_at hl 3 rfl) ?_
    refine lv_aload_n hx hb dJx4a65c_add_72be8_13 rfl (lv_at hl 1 rfl) ?_
    obtain ⟨⟨hL1, fK2⟩, h⟩ := h
    obtain ⟨hi3, h⟩ := h
    obtain ⟨⟨hL4, fK5⟩, h⟩ := h
    refine qr_aast hx hb hG hL1 fK2 hi3 hL4 fK5 dJx4a65c_add_72be8_14 (fun H locs hG => ?_)
    refine lv_aload_n hx hb dJx4a65c_add_72be8_15 rfl (lv_at hl 0 rfl) ?_
    refine lv_iload_n hx hb dJx4a65c_add_72be8_16 rfl (lv_at hl 3 rfl) ?_
    refine lv_iconst (v := (1 : Int32)) hx hb dJx4a65c_add_72be8_17 (by decide +kernel) ?_
    refine lv_iadd hx hb dJx4a65c_add_72be8_18 ?_
    refine lv_topi (fun v6 ev6 => ?_)
    have h := h v6 ev6
    obtain ⟨⟨hL7, fK8⟩, h⟩ := h
    refine qr_putI (C := RJx4a65c) (T := TJx4a65c) (N := 3) (ci := 0) hx hb hts in0 tyJx4a65c tyJx4a65c_ok nmJx4a65c hown hG hL7 fK8 (by decide) rfl 2 (by decide) rfl (hts (.fieldLink RJx4a65c 48 "java/util/ArrayList" "size" "I") (List.mem_of_getElem? (i := 1) rfl)) (fun _ h9 => h9) rfl (x := v6) (tyJx4a65c_ok 2 (by decide)) rfl rfl dJx4a65c_add_72be8_19 (fun H locs hG => ?_)
    exact qe_v hx hb hr hlk hG h hkc hks dJx4a65c_add_72be8_22
  have hl := lv_entry ([.ref a0z, .ref a1z, .ref a2z, .int x3z]) (n := 4) (Nat.le_of_ble_eq_true rfl)
  rw [lg_entry_eq]
  generalize (lg_sl ([.ref a0z, .ref a1z, .ref a2z, .int x3z]) ++ List.replicate (4 - (lg_sl ([.ref a0z, .ref a1z, .ref a2z, .int x3z])).length) Slot.unset).toArray = ls at hl ⊢
  have hl : lv_has ls 4 [(0, .ref a0z), (1, .ref a1z), (2, .ref a2z), (3, .int x3z)] := hl
  unfold wp_Jx4a65c_add_72be8 at h
  refine lv_iload_n hx hb dJx4a65c_add_72be8_0 rfl (lv_at hl 3 rfl) ?_
  refine lv_aload_n hx hb dJx4a65c_add_72be8_1 rfl (lv_at hl 2 rfl) ?_
  obtain ⟨hL9, h⟩ := h
  refine qr_alen hx hb hG hL9 dJx4a65c_add_72be8_2 ?_
  refine lv_topi (fun v10 ev10 => ?_)
  have h := h v10 ev10
  refine lv_icmp_ne (tgt := 11) hx hb dJx4a65c_add_72be8_3 (by decide) (fun c11 => ?_) (fun c11 => ?_)
  · have h := h.1 c11
    exact b11 SA a0z a1z a2z x3z _ _ 0 0 ls hkc hks h hG (lv_sub hl [0, 1, 2, 3] rfl)
  · have h := h.2 c11
    refine lv_aload_n hx hb dJx4a65c_add_72be8_6 rfl (lv_at hl 0 rfl) ?_
    obtain ⟨⟨hL14, fK15⟩, h⟩ := h
    obtain ⟨mck12, msk12, ⟨hs13c, hs13s⟩, h⟩ := h
    refine qc_q hG (va_runV (As := []) (rest := []) ⟨hx, hb, hml, hown, hts⟩ (c_Jx4a65c_grow_d5877 l g _ SA a0z h) (cwV 0 hts gJx4a65c_add_72be8_Jx4a65c_grow_d5877 rfl rfl rfl (by decide +kernel) ⟨(Nat.le_of_ble_eq_true rfl), (Nat.le_of_ble_eq_true rfl)⟩) ⟨qs_Pc.blind _ _ _ _, hG.recv hL14 fK15 (by decide) rfl, hG.pre _⟩ rfl rfl hl.1 rfl (lv_room (Nat.le_of_ble_eq_true rfl)) dJx4a65c_add_72be8_7 ⟨Nat.le_trans hs13c hmR, Nat.le_trans hs13s hsR⟩) (fun o17 S16 H locs h hG => ?_)
    have hkc := hs13c
    have hks := hs13s
    obtain ⟨q18, rfl, h⟩ := h
    refine lv_astore_n (lv' := [(2, .ref q18), (0, .ref a0z), (1, .ref a1z), (3, .int x3z)]) hx hb dJx4a65c_add_72be8_10 rfl hl (by decide) rfl (fun ls hl => ?_)
    exact b11 S16 a0z a1z q18 x3z _ _ (0 + mck12) (0 + msk12) ls hkc hks h hG (lv_sub hl [1, 2, 0, 3] rfl)
def wp_Jx4a65c_add_9ea2d (t0 m9 : Nat) (mc ms : Nat) (post : Int32 → qs_S → Prop) (SA : qs_S) (a0z : Nat) (a1z : Nat) : Prop := (a0z ∈ qs_L SA ∧ qs_K SA a0z = 0) ∧ (∀ v3 : Int32, v3 = qs_I SA 0 a0z → ∀ v4 : Int32, v4 = v3 + (1 : Int32) → ∃ q5 : Nat, qs_R (qs_wI SA 0 a0z v4) 1 a0z = some q5 ∧ (∀ v6 : Int32, v6 = qs_I (qs_wI SA 0 a0z v4) 2 a0z → ∃ mck7 msk7 : Nat, (0 + mck7 ≤ mc ∧ 0 + msk7 ≤ ms) ∧ (wp_Jx4a65c_add_72be8 t0 m9 mck7 msk7 (fun (S9 : qs_S) => post (1 : Int32) S9) (qs_wI SA 0 a0z v4) a0z a1z q5 v6)))
set_option maxHeartbeats 4000000 in
set_option maxRecDepth 100000 in
theorem c_Jx4a65c_add_9ea2d (l : Launch) (g : qs_G) (sz : Nat) (SA : qs_S) (a0z : Nat) (a1z : Nat) {mc ms : Nat} {post : Int32 → qs_S → Prop} (h : wp_Jx4a65c_add_9ea2d g.2.2.2.2.2.2.1 g.2.2.2.2.2.2.2 mc ms post SA a0z a1z) : Met l yJx4a65c_add_9ea2d wsJx4a65c_add_9ea2d ({ frames := 6, cells := mc, slots := ms, locals := 170 } : Room) (qs_Pc g sz SA [.ref a0z, .ref a1z]) (qs_Qi g (qs_F g SA sz) post) mc ms (qs_F g SA sz) := by
  refine Met.ofW (cc := cJx4a65c_add_9ea2d) (maxL := 2) (ret := (some .boolean)) (by decide +kernel) rfl ?_
  intro p e s m args below meth c s₁ B hml hv
  obtain ⟨rfl, hsz, hG⟩ := qs_Gd.start hv
  subst hsz
  have hx := B.exec
  have hb := B.bytes
  have hr := B.returns
  have hts := atoms_spec (ws := wsJx4a65c_add_9ea2d) B.pre
  have hown : s.vm.findClass RJx4a65c = some m.cls := findClass_of_methodNamed B.named
  have hlk := B.notSynchronized
  have in0 : ∀ w ∈ u_ws RJx4a65c TJx4a65c 3, w ∈ wsJx4a65c_add_9ea2d := fun w h => List.mem_cons_of_mem _ (List.mem_append_right _ (h))
  have hkc : 0 ≤ mc := Nat.zero_le _
  have hks : 0 ≤ ms := Nat.zero_le _
  have hmR : mc ≤ (headSpec wsJx4a65c_add_9ea2d ({ frames := 6, cells := mc, slots := ms, locals := 170 } : Room)).room.cells := Nat.le_refl _
  have hsR : ms ≤ (headSpec wsJx4a65c_add_9ea2d ({ frames := 6, cells := mc, slots := ms, locals := 170 } : Room)).room.slots := Nat.le_refl _
  have hl := lv_entry ([.ref a0z, .ref a1z]) (n := 2) (Nat.le_of_ble_eq_true rfl)
  rw [lg_entry_eq]
  generalize (lg_sl ([.ref a0z, .ref a1z]) ++ List.replicate (2 - (lg_sl ([.ref a0z, .ref a1z])).length) Slot.unset).toArray = ls at hl ⊢
  have hl : lv_has ls 2 [(0, .ref a0z), (1, .ref a1z)] := hl
  unfold wp_Jx4a65c_add_9ea2d at h
  refine lv_aload_n hx hb dJx4a65c_add_9ea2d_0 rfl (lv_at hl 0 rfl) ?_
  refine lv_dup hx hb dJx4a65c_add_9ea2d_1 rfl ?_
  obtain ⟨⟨hL1, fK2⟩, h⟩ := h
  refine qr_get (C := RJx4a65c) (T := TJx4a65c) (N := 3) (ci := 0) hx hb hts in0 hown hG hL1 fK2 (by decide) rfl 0 (by decide) rfl (hts (.fieldLink RJx4a65c 63 "java/util/ArrayList" "modCount" "I") (List.mem_of_getElem? (i := 1) rfl)) (u_same (hts (.sameField "java/util/ArrayList" "java/util/AbstractList" "modCount" "I") (List.mem_of_getElem? (i := 2) rfl))) (v := .int (qs_I SA 0 a0z)) rfl dJx4a65c_add_9ea2d_2 ?_
  refine lv_topi (fun v3 ev3 => ?_)
  have h := h v3 ev3
  refine lv_iconst (v := (1 : Int32)) hx hb dJx4a65c_add_9ea2d_5 (by decide +kernel) ?_
  refine lv_iadd hx hb dJx4a65c_add_9ea2d_6 ?_
  refine lv_topi (fun v4 ev4 => ?_)
  have h := h v4 ev4
  refine qr_putI (C := RJx4a65c) (T := TJx4a65c) (N := 3) (ci := 0) hx hb hts in0 tyJx4a65c tyJx4a65c_ok nmJx4a65c hown hG hL1 fK2 (by decide) rfl 0 (by decide) rfl (hts (.fieldLink RJx4a65c 63 "java/util/ArrayList" "modCount" "I") (List.mem_of_getElem? (i := 1) rfl)) (u_same (hts (.sameField "java/util/ArrayList" "java/util/AbstractList" "modCount" "I") (List.mem_of_getElem? (i := 2) rfl))) rfl (x := v4) (tyJx4a65c_ok 0 (by decide)) rfl rfl dJx4a65c_add_9ea2d_7 (fun H locs hG => ?_)
  refine lv_aload_n hx hb dJx4a65c_add_9ea2d_10 rfl (lv_at hl 0 rfl) ?_
  refine lv_aload_n hx hb dJx4a65c_add_9ea2d_11 rfl (lv_at hl 1 rfl) ?_
  refine lv_aload_n hx hb dJx4a65c_add_9ea2d_12 rfl (lv_at hl 0 rfl) ?_
  obtain ⟨q5, eq5, h⟩ := h
  refine qr_get (C := RJx4a65c) (T := TJx4a65c) (N := 3) (ci := 0) hx hb hts in0 hown hG hL1 fK2 (by decide) rfl 1 (by decide) rfl (hts (.fieldLink RJx4a65c 9 "java/util/ArrayList" "elementData" "[Ljava/lang/Object;") (List.mem_of_getElem? (i := 3) rfl)) (fun _ h9 => h9) (v := .ref q5) (qs_rf eq5) dJx4a65c_add_9ea2d_13 ?_
  refine lv_aload_n hx hb dJx4a65c_add_9ea2d_16 rfl (lv_at hl 0 rfl) ?_
  refine qr_get (C := RJx4a65c) (T := TJx4a65c) (N := 3) (ci := 0) hx hb hts in0 hown hG hL1 fK2 (by decide) rfl 2 (by decide) rfl (hts (.fieldLink RJx4a65c 48 "java/util/ArrayList" "size" "I") (List.mem_of_getElem? (i := 4) rfl)) (fun _ h9 => h9) (v := .int (qs_I (qs_wI SA 0 a0z v4) 2 a0z)) rfl dJx4a65c_add_9ea2d_17 ?_
  refine lv_topi (fun v6 ev6 => ?_)
  have h := h v6 ev6
  obtain ⟨mck7, msk7, ⟨hs8c, hs8s⟩, h⟩ := h
  refine qc_v hG (va_runV (As := [.ref a1z, .ref q5, .int v6]) (rest := []) ⟨hx, hb, hml, hown, hts⟩ (c_Jx4a65c_add_72be8 l g _ (qs_wI SA 0 a0z v4) a0z a1z q5 v6 h) (cwV 3 hts gJx4a65c_add_9ea2d_Jx4a65c_add_72be8 rfl rfl rfl (by decide +kernel) ⟨(Nat.le_of_ble_eq_true rfl), (Nat.le_of_ble_eq_true rfl)⟩) ⟨qs_Pc.blind _ _ _ _, hG.recv hL1 fK2 (by decide) rfl, hG.pre _⟩ rfl rfl hl.1 rfl (lv_room (Nat.le_of_ble_eq_true rfl)) dJx4a65c_add_9ea2d_20 ⟨Nat.le_trans hs8c hmR, Nat.le_trans hs8s hsR⟩) (fun S9 H locs h hG => ?_)
  have hkc := hs8c
  have hks := hs8s
  refine lv_iconst (v := (1 : Int32)) hx hb dJx4a65c_add_9ea2d_23 (by decide +kernel) ?_
  exact qe_z hx hb hr hlk (Or.inr rfl) hG h hkc hks dJx4a65c_add_9ea2d_24
def wp_Jx4a65c_fastRemove_b59b0_b34 (t0 m9 : Nat) (post : qs_S → Prop) (S : qs_S) (a0 : Nat) (a1 : Nat) (x3 : Int32) : Prop := (a0 ∈ qs_L S ∧ qs_K S a0 = 0) ∧ ((a1 ∈ qs_L (qs_wI S 2 a0 x3) ∧ qs_K (qs_wI S 2 a0 x3) a1 = 10) ∧ (vp_in x3 (qs_Z (qs_wI S 2 a0 x3) a1) ∧ (post (qs_wO (qs_wI S 2 a0 x3) a1 x3.toNatClampNeg none))))
def wp_Jx4a65c_fastRemove_b59b0 (t0 m9 : Nat) (post : qs_S → Prop) (SA : qs_S) (a0z : Nat) (a1z : Nat) (x2z : Int32) : Prop := (a0z ∈ qs_L SA ∧ qs_K SA a0z = 0) ∧ (∀ v8 : Int32, v8 = qs_I SA 0 a0z → ∀ v9 : Int32, v9 = v8 + (1 : Int32) → ∀ v10 : Int32, v10 = qs_I (qs_wI SA 0 a0z v9) 2 a0z → ∀ v11 : Int32, v11 = v10 - (1 : Int32) → (v11 ≤ x2z → (wp_Jx4a65c_fastRemove_b59b0_b34 t0 m9 post (qs_wI SA 0 a0z v9) a0z a1z v11)) ∧ (¬ v11 ≤ x2z → (∀ v13 : Int32, v13 = x2z + (1 : Int32) → ∀ v14 : Int32, v14 = v11 - x2z → (a1z ∈ qs_L (qs_wI SA 0 a0z v9) ∧ qs_K (qs_wI SA 0 a0z v9) a1z = 10) ∧ ((¬ v13 < 0 ∧ ¬ x2z < 0 ∧ ¬ v14 < 0 ∧ v13.toNatClampNeg + v14.toNatClampNeg ≤ qs_Z (qs_wI SA 0 a0z v9) a1z ∧ x2z.toNatClampNeg + v14.toNatClampNeg ≤ qs_Z (qs_wI SA 0 a0z v9) a1z ∧ ∀ i : Nat, i < v14.toNatClampNeg → ∀ y : Nat, qs_O (qs_wI SA 0 a0z v9) a1z (v13.toNatClampNeg + i) = some y → y ∈ qs_L (qs_wI SA 0 a0z v9) ∧ qs_K (qs_wI SA 0 a0z v9) y < 8) ∧ (wp_Jx4a65c_fastRemove_b59b0_b34 t0 m9 post (qs_cO (qs_wI SA 0 a0z v9) a1z a1z v13.toNatClampNeg x2z.toNatClampNeg v14.toNatClampNeg) a0z a1z v11)))))
set_option maxHeartbeats 4000000 in
set_option maxRecDepth 100000 in
theorem c_Jx4a65c_fastRemove_b59b0 (l : Launch) (g : qs_G) (sz : Nat) (SA : qs_S) (a0z : Nat) (a1z : Nat) (x2z : Int32) {post : qs_S → Prop} (h : wp_Jx4a65c_fastRemove_b59b0 g.2.2.2.2.2.2.1 g.2.2.2.2.2.2.2 post SA a0z a1z x2z) : Met l yJx4a65c_fastRemove_b59b0 wsJx4a65c_fastRemove_b59b0 ({ frames := 1, cells := 0, slots := 0, locals := 60 } : Room) (qs_Pc g sz SA [.ref a0z, .ref a1z, .int x2z]) (qs_Qv g (qs_F g SA sz) post) 0 0 (qs_F g SA sz) := by
  refine Met.ofW (cc := cJx4a65c_fastRemove_b59b0) (maxL := 4) (ret := none) (by decide +kernel) rfl ?_
  intro p e s m args below meth c s₁ B hml hv
  obtain ⟨rfl, hsz, hG⟩ := qs_Gd.start hv
  subst hsz
  have hx := B.exec
  have hb := B.bytes
  have hr := B.returns
  have hts := atoms_spec (ws := wsJx4a65c_fastRemove_b59b0) B.pre
  have hown : s.vm.findClass RJx4a65c = some m.cls := findClass_of_methodNamed B.named
  have hlk := B.notSynchronized
  have in0 : ∀ w ∈ u_ws RJx4a65c TJx4a65c 3, w ∈ wsJx4a65c_fastRemove_b59b0 := fun w h => List.mem_cons_of_mem _ (List.mem_append_right _ (h))
  have b34 : ∀ (S : qs_S) (a0 : Nat) (a1 : Nat) (x3 : Int32) (H : Heap) (locs : List Loc) (ls : Array Slot), wp_Jx4a65c_fastRemove_b59b0_b34 g.2.2.2.2.2.2.1 g.2.2.2.2.2.2.2 post S a0 a1 x3 → qs_Gd g (qs_F g SA s.heap.size) s S H locs → lv_has ls 4 [(0, .ref a0), (1, .ref a1), (3, .int x3)] → W p l e (headSpec wsJx4a65c_fastRemove_b59b0 ({ frames := 1, cells := 0, slots := 0, locals := 60 } : Room)).room s m (([.ref a0z, .ref a1z, .int x2z] : List Value)).toArray below meth c H locs 0 0 (MQ below (qs_Qv g (qs_F g SA s.heap.size) post) (([.ref a0z, .ref a1z, .int x2z] : List Value)).toArray s 0 0 (qs_F g SA s.heap.size)) (F0 m 34 ls []) := by
    intro S a0 a1 x3 H locs ls h hG hl
    unfold wp_Jx4a65c_fastRemove_b59b0_b34 at h
    refine lv_aload_n hx hb dJx4a65c_fastRemove_b59b0_34 rfl (lv_at hl 1 rfl) ?_
    refine lv_aload_n hx hb dJx4a65c_fastRemove_b59b0_35 rfl (lv_at hl 0 rfl) ?_
    refine lv_iload_n hx hb dJx4a65c_fastRemove_b59b0_36 rfl (lv_at hl 2 rfl) ?_
    refine lv_dup_x1 hx hb dJx4a65c_fastRemove_b59b0_37 rfl rfl ?_
    obtain ⟨⟨hL1, fK2⟩, h⟩ := h
    refine qr_putI (C := RJx4a65c) (T := TJx4a65c) (N := 3) (ci := 0) hx hb hts in0 tyJx4a65c tyJx4a65c_ok nmJx4a65c hown hG hL1 fK2 (by decide) rfl 2 (by decide) rfl (hts (.fieldLink RJx4a65c 48 "java/util/ArrayList" "size" "I") (List.mem_of_getElem? (i := 3) rfl)) (fun _ h9 => h9) rfl (x := x3) (tyJx4a65c_ok 2 (by decide)) rfl rfl dJx4a65c_fastRemove_b59b0_38 (fun H locs hG => ?_)
    refine lv_null hx hb dJx4a65c_fastRemove_b59b0_41 ?_
    obtain ⟨⟨hL3, fK4⟩, h⟩ := h
    obtain ⟨hi5, h⟩ := h
    refine qr_aastN hx hb hG hL3 fK4 hi5 dJx4a65c_fastRemove_b59b0_42 (fun H locs hG => ?_)
    exact qe_v hx hb hr hlk hG h (Nat.le_refl _) (Nat.le_refl _) dJx4a65c_fastRemove_b59b0_43
  have hl := lv_entry ([.ref a0z, .ref a1z, .int x2z]) (n := 4) (Nat.le_of_ble_eq_true rfl)
  rw [lg_entry_eq]
  generalize (lg_sl ([.ref a0z, .ref a1z, .int x2z]) ++ List.replicate (4 - (lg_sl ([.ref a0z, .ref a1z, .int x2z])).length) Slot.unset).toArray = ls at hl ⊢
  have hl : lv_has ls 4 [(0, .ref a0z), (1, .ref a1z), (2, .int x2z)] := hl
  unfold wp_Jx4a65c_fastRemove_b59b0 at h
  refine lv_aload_n hx hb dJx4a65c_fastRemove_b59b0_0 rfl (lv_at hl 0 rfl) ?_
  refine lv_dup hx hb dJx4a65c_fastRemove_b59b0_1 rfl ?_
  obtain ⟨⟨hL6, fK7⟩, h⟩ := h
  refine qr_get (C := RJx4a65c) (T := TJx4a65c) (N := 3) (ci := 0) hx hb hts in0 hown hG hL6 fK7 (by decide) rfl 0 (by decide) rfl (hts (.fieldLink RJx4a65c 63 "java/util/ArrayList" "modCount" "I") (List.mem_of_getElem? (i := 1) rfl)) (u_same (hts (.sameField "java/util/ArrayList" "java/util/AbstractList" "modCount" "I") (List.mem_of_getElem? (i := 2) rfl))) (v := .int (qs_I SA 0 a0z)) rfl dJx4a65c_fastRemove_b59b0_2 ?_
  refine lv_topi (fun v8 ev8 => ?_)
  have h := h v8 ev8
  refine lv_iconst (v := (1 : Int32)) hx hb dJx4a65c_fastRemove_b59b0_5 (by decide +kernel) ?_
  refine lv_iadd hx hb dJx4a65c_fastRemove_b59b0_6 ?_
  refine lv_topi (fun v9 ev9 => ?_)
  have h := h v9 ev9
  refine qr_putI (C := RJx4a65c) (T := TJx4a65c) (N := 3) (ci := 0) hx hb hts in0 tyJx4a65c tyJx4a65c_ok nmJx4a65c hown hG hL6 fK7 (by decide) rfl 0 (by decide) rfl (hts (.fieldLink RJx4a65c 63 "java/util/ArrayList" "modCount" "I") (List.mem_of_getElem? (i := 1) rfl)) (u_same (hts (.sameField "java/util/ArrayList" "java/util/AbstractList" "modCount" "I") (List.mem_of_getElem? (i := 2) rfl))) rfl (x := v9) (tyJx4a65c_ok 0 (by decide)) rfl rfl dJx4a65c_fastRemove_b59b0_7 (fun H locs hG => ?_)
  refine lv_aload_n hx hb dJx4a65c_fastRemove_b59b0_10 rfl (lv_at hl 0 rfl) ?_
  refine qr_get (C := RJx4a65c) (T := TJx4a65c) (N := 3) (ci := 0) hx hb hts in0 hown hG hL6 fK7 (by decide) rfl 2 (by decide) rfl (hts (.fieldLink RJx4a65c 48 "java/util/ArrayList" "size" "I") (List.mem_of_getElem? (i := 3) rfl)) (fun _ h9 => h9) (v := .int (qs_I (qs_wI SA 0 a0z v9) 2 a0z)) rfl dJx4a65c_fastRemove_b59b0_11 ?_
  refine lv_topi (fun v10 ev10 => ?_)
  have h := h v10 ev10
  refine lv_iconst (v := (1 : Int32)) hx hb dJx4a65c_fastRemove_b59b0_14 (by decide +kernel) ?_
  refine lv_isub hx hb dJx4a65c_fastRemove_b59b0_15 ?_
  refine lv_topi (fun v11 ev11 => ?_)
  have h := h v11 ev11
  refine lv_dup hx hb dJx4a65c_fastRemove_b59b0_16 rfl ?_
  refine lv_istore_n (lv' := [(3, .int v11), (0, .ref a0z), (1, .ref a1z), (2, .int x2z)]) hx hb dJx4a65c_fastRemove_b59b0_17 rfl hl (by decide) rfl (fun ls hl => ?_)
  refine lv_iload_n hx hb dJx4a65c_fastRemove_b59b0_18 rfl (lv_at hl 3 rfl) ?_
  refine lv_icmp_le (tgt := 34) hx hb dJx4a65c_fastRemove_b59b0_19 (by decide) (fun c12 => ?_) (fun c12 => ?_)
  · have h := h.1 c12
    exact b34 (qs_wI SA 0 a0z v9) a0z a1z v11 _ _ ls h hG (lv_sub hl [1, 2, 0] rfl)
  · have h := h.2 c12
    refine lv_aload_n hx hb dJx4a65c_fastRemove_b59b0_22 rfl (lv_at hl 2 rfl) ?_
    refine lv_iload_n hx hb dJx4a65c_fastRemove_b59b0_23 rfl (lv_at hl 3 rfl) ?_
    refine lv_iconst (v := (1 : Int32)) hx hb dJx4a65c_fastRemove_b59b0_24 (by decide +kernel) ?_
    refine lv_iadd hx hb dJx4a65c_fastRemove_b59b0_25 ?_
    refine lv_topi (fun v13 ev13 => ?_)
    have h := h v13 ev13
    refine lv_aload_n hx hb dJx4a65c_fastRemove_b59b0_26 rfl (lv_at hl 2 rfl) ?_
    refine lv_iload_n hx hb dJx4a65c_fastRemove_b59b0_27 rfl (lv_at hl 3 rfl) ?_
    refine lv_iload_n hx hb dJx4a65c_fastRemove_b59b0_28 rfl (lv_at hl 0 rfl) ?_
    refine lv_iload_n hx hb dJx4a65c_fastRemove_b59b0_29 rfl (lv_at hl 3 rfl) ?_
    refine lv_isub hx hb dJx4a65c_fastRemove_b59b0_30 ?_
    refine lv_topi (fun v14 ev14 => ?_)
    have h := h v14 ev14
    obtain ⟨⟨hL15, fK16⟩, h⟩ := h
    obtain ⟨⟨u171, u172, u173, u174, u175, u176⟩, h⟩ := h
    refine qr_copy hx hb (hml.trans hl.1.symm) hown (hts (.methodLink RJx4a65c 112 arraycopyName) (List.mem_of_getElem? (i := 4) rfl)) (hts (.native arraycopyName) (List.mem_of_getElem? (i := 5) rfl)) (hts (.static arraycopyName) (List.mem_of_getElem? (i := 6) rfl)) (hts (.initialized "java/lang/System") (List.mem_of_getElem? (i := 7) rfl)) hG hL15 fK16 hL15 fK16 u171 u172 u173 u174 u175 u176 (Nat.le_of_ble_eq_true rfl) (Nat.le_of_ble_eq_true rfl) dJx4a65c_fastRemove_b59b0_31 (fun H locs hG => ?_)
    exact b34 (qs_cO (qs_wI SA 0 a0z v9) a1z a1z v13.toNatClampNeg x2z.toNatClampNeg v14.toNatClampNeg) a0z a1z v11 _ _ ls h hG (lv_sub hl [1, 2, 0] rfl)
def wp_Jx4a65c_remove_915e3 (t0 m9 : Nat) (post : Option Nat → qs_S → Prop) (SA : qs_S) (a0z : Nat) (x1z : Int32) : Prop := (a0z ∈ qs_L SA ∧ qs_K SA a0z = 0) ∧ (∀ v3 : Int32, v3 = qs_I SA 2 a0z → wp_J15_checkIndex_7cf53 t0 m9 (fun (v7 : Int32) (S6 : qs_S) => (a0z ∈ qs_L S6 ∧ qs_K S6 a0z = 0) ∧ (∃ q10 : Nat, qs_R S6 1 a0z = some q10 ∧ ((q10 ∈ qs_L S6 ∧ qs_K S6 q10 = 10) ∧ (vp_in x1z (qs_Z S6 q10) ∧ (∃ q14 : Nat, qs_O S6 q10 x1z.toNatClampNeg = some q14 ∧ (wp_Jx4a65c_fastRemove_b59b0 t0 m9 (fun (S17 : qs_S) => post (some q14) S17) S6 a0z q10 x1z)))))) SA x1z v3)
set_option maxHeartbeats 4000000 in
set_option maxRecDepth 100000 in
theorem c_Jx4a65c_remove_915e3 (l : Launch) (g : qs_G) (sz : Nat) (SA : qs_S) (a0z : Nat) (x1z : Int32) {post : Option Nat → qs_S → Prop} (h : wp_Jx4a65c_remove_915e3 g.2.2.2.2.2.2.1 g.2.2.2.2.2.2.2 post SA a0z x1z) : Met l yJx4a65c_remove_915e3 wsJx4a65c_remove_915e3 ({ frames := 2, cells := 0, slots := 0, locals := 83 } : Room) (qs_Pc g sz SA [.ref a0z, .int x1z]) (qs_Qq g (qs_F g SA sz) post) 0 0 (qs_F g SA sz) := by
  refine Met.ofW (cc := cJx4a65c_remove_915e3) (maxL := 4) (ret := (some (.object "java/lang/Object"))) (by decide +kernel) rfl ?_
  intro p e s m args below meth c s₁ B hml hv
  obtain ⟨rfl, hsz, hG⟩ := qs_Gd.start hv
  subst hsz
  have hx := B.exec
  have hb := B.bytes
  have hr := B.returns
  have hts := atoms_spec (ws := wsJx4a65c_remove_915e3) B.pre
  have hown : s.vm.findClass RJx4a65c = some m.cls := findClass_of_methodNamed B.named
  have hlk := B.notSynchronized
  have in0 : ∀ w ∈ u_ws RJx4a65c TJx4a65c 3, w ∈ wsJx4a65c_remove_915e3 := fun w h => List.mem_cons_of_mem _ (List.mem_append_right _ (h))
  have hl := lv_entry ([.ref a0z, .int x1z]) (n := 4) (Nat.le_of_ble_eq_true rfl)
  rw [lg_entry_eq]
  generalize (lg_sl ([.ref a0z, .int x1z]) ++ List.replicate (4 - (lg_sl ([.ref a0z, .int x1z])).length) Slot.unset).toArray = ls at hl ⊢
  have hl : lv_has ls 4 [(0, .ref a0z), (1, .int x1z)] := hl
  unfold wp_Jx4a65c_remove_915e3 at h
  refine lv_iload_n hx hb dJx4a65c_remove_915e3_0 rfl (lv_at hl 1 rfl) ?_
  refine lv_aload_n hx hb dJx4a65c_remove_915e3_1 rfl (lv_at hl 0 rfl) ?_
  obtain ⟨⟨hL1, fK2⟩, h⟩ := h
  refine qr_get (C := RJx4a65c) (T := TJx4a65c) (N := 3) (ci := 0) hx hb hts in0 hown hG hL1 fK2 (by decide) rfl 2 (by decide) rfl (hts (.fieldLink RJx4a65c 48 "java/util/ArrayList" "size" "I") (List.mem_of_getElem? (i := 1) rfl)) (fun _ h9 => h9) (v := .int (qs_I SA 2 a0z)) rfl dJx4a65c_remove_915e3_2 ?_
  refine lv_topi (fun v3 ev3 => ?_)
  have h := h v3 ev3
  refine qc_i hG (va_runS (As := [.int x1z, .int v3]) (rest := []) ⟨hx, hb, hml, hown, hts⟩ (c_J15_checkIndex_7cf53 l g _ SA x1z v3 h) (va_cwS 2 hts gJx4a65c_remove_915e3_J15_checkIndex_7cf53 rfl rfl rfl (by decide +kernel) ⟨(Nat.le_of_ble_eq_true rfl), (Nat.le_of_ble_eq_true rfl)⟩) ⟨qs_Pc.blind _ _ _ _, hG.pre _⟩ rfl rfl hl.1 rfl (lv_room (Nat.le_of_ble_eq_true rfl)) dJx4a65c_remove_915e3_5 ⟨Nat.zero_le _, Nat.zero_le _⟩) (fun v7 S6 H locs h hG => ?_)
  refine lv_pop hx hb dJx4a65c_remove_915e3_8 rfl ?_
  refine lv_aload_n hx hb dJx4a65c_remove_915e3_9 rfl (lv_at hl 0 rfl) ?_
  obtain ⟨⟨hL8, fK9⟩, h⟩ := h
  obtain ⟨q10, eq10, h⟩ := h
  refine qr_get (C := RJx4a65c) (T := TJx4a65c) (N := 3) (ci := 0) hx hb hts in0 hown hG hL8 fK9 (by decide) rfl 1 (by decide) rfl (hts (.fieldLink RJx4a65c 9 "java/util/ArrayList" "elementData" "[Ljava/lang/Object;") (List.mem_of_getElem? (i := 2) rfl)) (fun _ h9 => h9) (v := .ref q10) (qs_rf eq10) dJx4a65c_remove_915e3_10 ?_
  refine lv_astore_n (lv' := [(2, .ref q10), (0, .ref a0z), (1, .int x1z)]) hx hb dJx4a65c_remove_915e3_13 rfl hl (by decide) rfl (fun ls hl => ?_)
  refine lv_aload_n hx hb dJx4a65c_remove_915e3_14 rfl (lv_at hl 0 rfl) ?_
  refine lv_iload_n hx hb dJx4a65c_remove_915e3_15 rfl (lv_at hl 2 rfl) ?_
  obtain ⟨⟨hL11, fK12⟩, h⟩ := h
  obtain ⟨hi13, q14, eq14, h⟩ := h
  refine qr_aald hx hb hG hL11 fK12 hi13 (v := .ref q14) (qs_rf eq14) dJx4a65c_remove_915e3_16 ?_
  refine lv_astore_n (lv' := [(3, .ref q14), (2, .ref q10), (0, .ref a0z), (1, .int x1z)]) hx hb dJx4a65c_remove_915e3_17 rfl hl (by decide) rfl (fun ls hl => ?_)
  refine lv_aload_n hx hb dJx4a65c_remove_915e3_18 rfl (lv_at hl 2 rfl) ?_
  refine lv_aload_n hx hb dJx4a65c_remove_915e3_19 rfl (lv_at hl 1 rfl) ?_
  refine lv_iload_n hx hb dJx4a65c_remove_915e3_20 rfl (lv_at hl 3 rfl) ?_
  refine qc_v hG (va_runV (As := [.ref q10, .int x1z]) (rest := []) ⟨hx, hb, hml, hown, hts⟩ (c_Jx4a65c_fastRemove_b59b0 l g _ S6 a0z q10 x1z h) (cwV 2 hts gJx4a65c_remove_915e3_Jx4a65c_fastRemove_b59b0 rfl rfl rfl (by decide +kernel) ⟨(Nat.le_of_ble_eq_true rfl), (Nat.le_of_ble_eq_true rfl)⟩) ⟨qs_Pc.blind _ _ _ _, hG.recv hL8 fK9 (by decide) rfl, hG.pre _⟩ rfl rfl hl.1 rfl (lv_room (Nat.le_of_ble_eq_true rfl)) dJx4a65c_remove_915e3_21 ⟨Nat.zero_le _, Nat.zero_le _⟩) (fun S17 H locs h hG => ?_)
  refine lv_aload_n hx hb dJx4a65c_remove_915e3_24 rfl (lv_at hl 0 rfl) ?_
  exact qe_q (o := (some q14)) hx hb hr hlk rfl (Or.inl ⟨_, rfl⟩) hG h (Nat.le_refl _) (Nat.le_refl _) dJx4a65c_remove_915e3_25
def wp_Jx4a65c_clear_da8c8_c27 (t0 m9 : Nat) (post : qs_S → Prop) (K27 : qs_S → Nat → Int32 → Int32 → Prop) (S : qs_S) (a1 : Nat) (x2 : Int32) (x3 : Int32) : Prop := (x2 ≤ x3 → (post S)) ∧ (¬ x2 ≤ x3 → ((a1 ∈ qs_L S ∧ qs_K S a1 = 10) ∧ (vp_in x3 (qs_Z S a1) ∧ (∀ v5 : Int32, v5 = x3 + 1 → K27 (qs_wO S a1 x3.toNatClampNeg none) a1 x2 v5))))
def wp_Jx4a65c_clear_da8c8_b27 (t0 m9 : Nat) (post : qs_S → Prop) : Nat → qs_S → Nat → Int32 → Int32 → Prop
  | 0 => fun _ _ _ _ => False
  | n9 + 1 => wp_Jx4a65c_clear_da8c8_c27 t0 m9 post (wp_Jx4a65c_clear_da8c8_b27 t0 m9 post n9)
def wp_Jx4a65c_clear_da8c8 (t0 m9 : Nat) (post : qs_S → Prop) (SA : qs_S) (a0z : Nat) : Prop := (a0z ∈ qs_L SA ∧ qs_K SA a0z = 0) ∧ (∀ v8 : Int32, v8 = qs_I SA 0 a0z → ∀ v9 : Int32, v9 = v8 + (1 : Int32) → ∃ q10 : Nat, qs_R (qs_wI SA 0 a0z v9) 1 a0z = some q10 ∧ (∀ v11 : Int32, v11 = qs_I (qs_wI SA 0 a0z v9) 2 a0z → ∃ n12 : Nat, wp_Jx4a65c_clear_da8c8_b27 t0 m9 post n12 (qs_wI (qs_wI SA 0 a0z v9) 2 a0z (0 : Int32)) q10 v11 (0 : Int32)))
set_option maxHeartbeats 4000000 in
set_option maxRecDepth 100000 in
theorem c_Jx4a65c_clear_da8c8 (l : Launch) (g : qs_G) (sz : Nat) (SA : qs_S) (a0z : Nat) {post : qs_S → Prop} (h : wp_Jx4a65c_clear_da8c8 g.2.2.2.2.2.2.1 g.2.2.2.2.2.2.2 post SA a0z) : Met l yJx4a65c_clear_da8c8 wsJx4a65c_clear_da8c8 ({ frames := 0, cells := 0, slots := 0, locals := 0 } : Room) (qs_Pc g sz SA [.ref a0z]) (qs_Qv g (qs_F g SA sz) post) 0 0 (qs_F g SA sz) := by
  refine Met.ofW (cc := cJx4a65c_clear_da8c8) (maxL := 4) (ret := none) (by decide +kernel) rfl ?_
  intro p e s m args below meth c s₁ B hml hv
  obtain ⟨rfl, hsz, hG⟩ := qs_Gd.start hv
  subst hsz
  have hx := B.exec
  have hb := B.bytes
  have hr := B.returns
  have hts := atoms_spec (ws := wsJx4a65c_clear_da8c8) B.pre
  have hown : s.vm.findClass RJx4a65c = some m.cls := findClass_of_methodNamed B.named
  have hlk := B.notSynchronized
  have in0 : ∀ w ∈ u_ws RJx4a65c TJx4a65c 3, w ∈ wsJx4a65c_clear_da8c8 := fun w h => List.mem_cons_of_mem _ (List.mem_append_right _ (h))
  have c27 : ∀ (K27 : qs_S → Nat → Int32 → Int32 → Prop), (∀ (S : qs_S) (a1 : Nat) (x2 : Int32) (x3 : Int32) (H : Heap) (locs : List Loc) (ls : Array Slot), K27 S a1 x2 x3 → qs_Gd g (qs_F g SA s.heap.size) s S H locs → lv_has ls 4 [(1, .ref a1), (2, .int x2), (3, .int x3)] → W p l e (headSpec wsJx4a65c_clear_da8c8 ({ frames := 0, cells := 0, slots := 0, locals := 0 } : Room)).room s m (([.ref a0z] : List Value)).toArray below meth c H locs 0 0 (MQ below (qs_Qv g (qs_F g SA s.heap.size) post) (([.ref a0z] : List Value)).toArray s 0 0 (qs_F g SA s.heap.size)) (F0 m 27 ls [])) → ∀ (S : qs_S) (a1 : Nat) (x2 : Int32) (x3 : Int32) (H : Heap) (locs : List Loc) (ls : Array Slot), wp_Jx4a65c_clear_da8c8_c27 g.2.2.2.2.2.2.1 g.2.2.2.2.2.2.2 post K27 S a1 x2 x3 → qs_Gd g (qs_F g SA s.heap.size) s S H locs → lv_has ls 4 [(1, .ref a1), (2, .int x2), (3, .int x3)] → W p l e (headSpec wsJx4a65c_clear_da8c8 ({ frames := 0, cells := 0, slots := 0, locals := 0 } : Room)).room s m (([.ref a0z] : List Value)).toArray below meth c H locs 0 0 (MQ below (qs_Qv g (qs_F g SA s.heap.size) post) (([.ref a0z] : List Value)).toArray s 0 0 (qs_F g SA s.heap.size)) (F0 m 27 ls []) := by
    intro K27 hK27 S a1 x2 x3 H locs ls h hG hl
    unfold wp_Jx4a65c_clear_da8c8_c27 at h
    refine lv_iload_n hx hb dJx4a65c_clear_da8c8_27 rfl (lv_at hl 2 rfl) ?_
    refine lv_iload_n hx hb dJx4a65c_clear_da8c8_28 rfl (lv_at hl 1 rfl) ?_
    refine lv_icmp_ge (tgt := 42) hx hb dJx4a65c_clear_da8c8_29 (by decide) (fun c1 => ?_) (fun c1 => ?_)
    · have h := h.1 c1
      exact qe_v hx hb hr hlk hG h (Nat.le_refl _) (Nat.le_refl _) dJx4a65c_clear_da8c8_42
    · have h := h.2 c1
      refine lv_aload_n hx hb dJx4a65c_clear_da8c8_32 rfl (lv_at hl 0 rfl) ?_
      refine lv_iload_n hx hb dJx4a65c_clear_da8c8_33 rfl (lv_at hl 2 rfl) ?_
      refine lv_null hx hb dJx4a65c_clear_da8c8_34 ?_
      obtain ⟨⟨hL2, fK3⟩, h⟩ := h
      obtain ⟨hi4, h⟩ := h
      refine qr_aastN hx hb hG hL2 fK3 hi4 dJx4a65c_clear_da8c8_35 (fun H locs hG => ?_)
      obtain ⟨v5, ev5⟩ : ∃ y : Int32, y = x3 + 1 := ⟨_, rfl⟩
      have h := h v5 ev5
      refine lv_iinc (v := v5) (lv' := [(3, .int v5), (1, .ref a1), (2, .int x2)]) hx hb dJx4a65c_clear_da8c8_36 hl (k := 2) rfl (by rw [ev5]; rfl) (by decide) rfl (fun ls hl => ?_)
      refine lv_goto (tgt := 27) hx hb dJx4a65c_clear_da8c8_39 (by decide) ?_
      exact hK27 (qs_wO S a1 x3.toNatClampNeg none) a1 x2 v5 _ _ ls h hG (lv_sub hl [1, 2, 0] rfl)
  have b27 : ∀ n9 : Nat, ∀ (S : qs_S) (a1 : Nat) (x2 : Int32) (x3 : Int32) (H : Heap) (locs : List Loc) (ls : Array Slot), wp_Jx4a65c_clear_da8c8_b27 g.2.2.2.2.2.2.1 g.2.2.2.2.2.2.2 post n9 S a1 x2 x3 → qs_Gd g (qs_F g SA s.heap.size) s S H locs → lv_has ls 4 [(1, .ref a1), (2, .int x2), (3, .int x3)] → W p l e (headSpec wsJx4a65c_clear_da8c8 ({ frames := 0, cells := 0, slots := 0, locals := 0 } : Room)).room s m (([.ref a0z] : List Value)).toArray below meth c H locs 0 0 (MQ below (qs_Qv g (qs_F g SA s.heap.size) post) (([.ref a0z] : List Value)).toArray s 0 0 (qs_F g SA s.heap.size)) (F0 m 27 ls []) := by
    intro n9
    induction n9 with
    | zero =>
      intro S a1 x2 x3 H locs ls h hG hl
      exact False.elim h
    | succ n9 ih => exact c27 _ ih
  have hl := lv_entry ([.ref a0z]) (n := 4) (Nat.le_of_ble_eq_true rfl)
  rw [lg_entry_eq]
  generalize (lg_sl ([.ref a0z]) ++ List.replicate (4 - (lg_sl ([.ref a0z])).length) Slot.unset).toArray = ls at hl ⊢
  have hl : lv_has ls 4 [(0, .ref a0z)] := hl
  unfold wp_Jx4a65c_clear_da8c8 at h
  refine lv_aload_n hx hb dJx4a65c_clear_da8c8_0 rfl (lv_at hl 0 rfl) ?_
  refine lv_dup hx hb dJx4a65c_clear_da8c8_1 rfl ?_
  obtain ⟨⟨hL6, fK7⟩, h⟩ := h
  refine qr_get (C := RJx4a65c) (T := TJx4a65c) (N := 3) (ci := 0) hx hb hts in0 hown hG hL6 fK7 (by decide) rfl 0 (by decide) rfl (hts (.fieldLink RJx4a65c 63 "java/util/ArrayList" "modCount" "I") (List.mem_of_getElem? (i := 1) rfl)) (u_same (hts (.sameField "java/util/ArrayList" "java/util/AbstractList" "modCount" "I") (List.mem_of_getElem? (i := 2) rfl))) (v := .int (qs_I SA 0 a0z)) rfl dJx4a65c_clear_da8c8_2 ?_
  refine lv_topi (fun v8 ev8 => ?_)
  have h := h v8 ev8
  refine lv_iconst (v := (1 : Int32)) hx hb dJx4a65c_clear_da8c8_5 (by decide +kernel) ?_
  refine lv_iadd hx hb dJx4a65c_clear_da8c8_6 ?_
  refine lv_topi (fun v9 ev9 => ?_)
  have h := h v9 ev9
  refine qr_putI (C := RJx4a65c) (T := TJx4a65c) (N := 3) (ci := 0) hx hb hts in0 tyJx4a65c tyJx4a65c_ok nmJx4a65c hown hG hL6 fK7 (by decide) rfl 0 (by decide) rfl (hts (.fieldLink RJx4a65c 63 "java/util/ArrayList" "modCount" "I") (List.mem_of_getElem? (i := 1) rfl)) (u_same (hts (.sameField "java/util/ArrayList" "java/util/AbstractList" "modCount" "I") (List.mem_of_getElem? (i := 2) rfl))) rfl (x := v9) (tyJx4a65c_ok 0 (by decide)) rfl rfl dJx4a65c_clear_da8c8_7 (fun H locs hG => ?_)
  refine lv_aload_n hx hb dJx4a65c_clear_da8c8_10 rfl (lv_at hl 0 rfl) ?_
  obtain ⟨q10, eq10, h⟩ := h
  refine qr_get (C := RJx4a65c) (T := TJx4a65c) (N := 3) (ci := 0) hx hb hts in0 hown hG hL6 fK7 (by decide) rfl 1 (by decide) rfl (hts (.fieldLink RJx4a65c 9 "java/util/ArrayList" "elementData" "[Ljava/lang/Object;") (List.mem_of_getElem? (i := 3) rfl)) (fun _ h9 => h9) (v := .ref q10) (qs_rf eq10) dJx4a65c_clear_da8c8_11 ?_
  refine lv_astore_n (lv' := [(1, .ref q10), (0, .ref a0z)]) hx hb dJx4a65c_clear_da8c8_14 rfl hl (by decide) rfl (fun ls hl => ?_)
  refine lv_aload_n hx hb dJx4a65c_clear_da8c8_15 rfl (lv_at hl 1 rfl) ?_
  refine qr_get (C := RJx4a65c) (T := TJx4a65c) (N := 3) (ci := 0) hx hb hts in0 hown hG hL6 fK7 (by decide) rfl 2 (by decide) rfl (hts (.fieldLink RJx4a65c 48 "java/util/ArrayList" "size" "I") (List.mem_of_getElem? (i := 4) rfl)) (fun _ h9 => h9) (v := .int (qs_I (qs_wI SA 0 a0z v9) 2 a0z)) rfl dJx4a65c_clear_da8c8_16 ?_
  refine lv_topi (fun v11 ev11 => ?_)
  have h := h v11 ev11
  refine lv_istore_n (lv' := [(2, .int v11), (1, .ref q10), (0, .ref a0z)]) hx hb dJx4a65c_clear_da8c8_19 rfl hl (by decide) rfl (fun ls hl => ?_)
  refine lv_aload_n hx hb dJx4a65c_clear_da8c8_20 rfl (lv_at hl 2 rfl) ?_
  refine lv_iconst (v := (0 : Int32)) hx hb dJx4a65c_clear_da8c8_21 (by decide +kernel) ?_
  refine lv_dup_x1 hx hb dJx4a65c_clear_da8c8_22 rfl rfl ?_
  refine qr_putI (C := RJx4a65c) (T := TJx4a65c) (N := 3) (ci := 0) hx hb hts in0 tyJx4a65c tyJx4a65c_ok nmJx4a65c hown hG hL6 fK7 (by decide) rfl 2 (by decide) rfl (hts (.fieldLink RJx4a65c 48 "java/util/ArrayList" "size" "I") (List.mem_of_getElem? (i := 4) rfl)) (fun _ h9 => h9) rfl (x := (0 : Int32)) (tyJx4a65c_ok 2 (by decide)) rfl rfl dJx4a65c_clear_da8c8_23 (fun H locs hG => ?_)
  refine lv_istore_n (lv' := [(3, .int (0 : Int32)), (2, .int v11), (1, .ref q10), (0, .ref a0z)]) hx hb dJx4a65c_clear_da8c8_26 rfl hl (by decide) rfl (fun ls hl => ?_)
  obtain ⟨n12, h⟩ := h
  exact b27 n12 (qs_wI (qs_wI SA 0 a0z v9) 2 a0z (0 : Int32)) q10 v11 (0 : Int32) _ _ ls h hG (lv_sub hl [2, 1, 0] rfl)

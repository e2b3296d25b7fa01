def wp_X7_isUppermost_b37 (t0 m9 : Nat) (post : Int32 → qs_S → Prop) (S : qs_S) (s0 : Int32) : Prop := (s0 = 0 ∨ s0 = 1) ∧ post s0 S
def wp_X7_isUppermost_b36 (t0 m9 : Nat) (post : Int32 → qs_S → Prop) (S : qs_S) : Prop := wp_X7_isUppermost_b37 t0 m9 post S (0 : Int32)
def wp_X7_isUppermost (t0 m9 : Nat) (post : Int32 → qs_S → Prop) (SA : qs_S) (a0z : Nat) (x1z : Int32) : Prop := (a0z ∈ qs_L SA ∧ qs_K SA a0z = 7) ∧ (∃ q4 : Nat, qs_R SA 9 a0z = some q4 ∧ ((q4 ∈ qs_L SA ∧ qs_K SA q4 = 8) ∧ (vp_in x1z (qs_Z SA q4) ∧ (∀ v8 : Int32, v8 = qs_A SA q4 x1z.toNatClampNeg → (¬ v8 = (3 : Int32) → (wp_X7_isUppermost_b36 t0 m9 post SA)) ∧ (v8 = (3 : Int32) → (∃ q10 : Nat, qs_R SA 15 a0z = some q10 ∧ ((q10 ∈ qs_L SA ∧ qs_K SA q10 = 8) ∧ (vp_in x1z (qs_Z SA q10) ∧ (∀ v14 : Int32, v14 = qs_A SA q10 x1z.toNatClampNeg → ∃ q15 : Nat, qs_R SA 14 a0z = some q15 ∧ (∃ q16 : Nat, qs_R SA 10 a0z = some q16 ∧ ((q16 ∈ qs_L SA ∧ qs_K SA q16 = 8) ∧ (vp_in x1z (qs_Z SA q16) ∧ (∀ v20 : Int32, v20 = qs_A SA q16 x1z.toNatClampNeg → (q15 ∈ qs_L SA ∧ qs_K SA q15 = 8) ∧ (vp_in v20 (qs_Z SA q15) ∧ (∀ v24 : Int32, v24 = qs_A SA q15 v20.toNatClampNeg → ∀ v25 : Int32, v25 = v24 - (1 : Int32) → (¬ v14 = v25 → (wp_X7_isUppermost_b36 t0 m9 post SA)) ∧ (v14 = v25 → (wp_X7_isUppermost_b37 t0 m9 post SA (1 : Int32))))))))))))))))))
set_option maxHeartbeats 4000000 in
set_option maxRecDepth 100000 in
theorem c_X7_isUppermost (l : Launch) (g : qs_G) (sz : Nat) (SA : qs_S) (a0z : Nat) (x1z : Int32) {post : Int32 → qs_S → Prop} (h : wp_X7_isUppermost g.2.2.2.2.2.2.1 g.2.2.2.2.2.2.2 post SA a0z x1z) : Met l yX7_isUppermost wsX7_isUppermost ({ frames := 0, cells := 0, slots := 0, locals := 0 } : Room) (qs_Pc g sz SA [.ref a0z, .int x1z]) (qs_Qi g (qs_F g SA sz) post) 0 0 (qs_F g SA sz) := by
  refine Met.ofW (cc := cX7_isUppermost) (maxL := 2) (ret := (some .boolean)) (by decide +kernel) rfl ?_
  intro p e s m args below meth c s₁ B hml hv
  obtain ⟨rfl, hsz, hG⟩ := qs_Gd.start hv
  subst hsz
  have hx := B.exec
  have hb := B.bytes
  have hr := B.returns
  have hts := atoms_spec (ws := wsX7_isUppermost) B.pre
  have hown : s.vm.findClass RX7 = some m.cls := findClass_of_methodNamed B.named
  have hlk := B.notSynchronized
  have in7 : ∀ w ∈ u_ws RX7 TX7 35, w ∈ wsX7_isUppermost := fun w h => List.mem_cons_of_mem _ (List.mem_append_right _ (h))
  have b37 : ∀ (S : qs_S) (s0 : Int32) (H : Heap) (locs : List Loc) (ls : Array Slot), wp_X7_isUppermost_b37 g.2.2.2.2.2.2.1 g.2.2.2.2.2.2.2 post S s0 → qs_Gd g (qs_F g SA s.heap.size) s S H locs → lv_has ls 2 [] → W p l e (headSpec wsX7_isUppermost ({ frames := 0, cells := 0, slots := 0, locals := 0 } : Room)).room s m (([.ref a0z, .int x1z] : List Value)).toArray below meth c H locs 0 0 (MQ below (qs_Qi g (qs_F g SA s.heap.size) post) (([.ref a0z, .int x1z] : List Value)).toArray s 0 0 (qs_F g SA s.heap.size)) (F0 m 37 ls [.int s0]) := by
    intro S s0 H locs ls h hG hl
    unfold wp_X7_isUppermost_b37 at h
    obtain ⟨z1, h⟩ := h
    exact qe_z hx hb hr hlk z1 hG h (Nat.le_refl _) (Nat.le_refl _) dX7_isUppermost_37
  have b36 : ∀ (S : qs_S) (H : Heap) (locs : List Loc) (ls : Array Slot), wp_X7_isUppermost_b36 g.2.2.2.2.2.2.1 g.2.2.2.2.2.2.2 post S → qs_Gd g (qs_F g SA s.heap.size) s S H locs → lv_has ls 2 [] → W p l e (headSpec wsX7_isUppermost ({ frames := 0, cells := 0, slots := 0, locals := 0 } : Room)).room s m (([.ref a0z, .int x1z] : List Value)).toArray below meth c H locs 0 0 (MQ below (qs_Qi g (qs_F g SA s.heap.size) post) (([.ref a0z, .int x1z] : List Value)).toArray s 0 0 (qs_F g SA s.heap.size)) (F0 m 36 ls []) := by
    intro S H locs ls h hG hl
    unfold wp_X7_isUppermost_b36 at h
    refine lv_iconst (v := (0 : Int32)) hx hb dX7_isUppermost_36 (by decide +kernel) ?_
    exact b37 S (0 : Int32) _ _ ls h hG (lv_sub hl [] rfl)
  have hl := lv_entry ([.ref a0z, .int x1z]) (n := 2) (Nat.le_of_ble_eq_true rfl)
  rw [lg_entry_eq]
  generalize (lg_sl ([.ref a0z, .int x1z]) ++ List.replicate (2 - (lg_sl ([.ref a0z, .int x1z])).length) Slot.unset).toArray = ls at hl ⊢
  have hl : lv_has ls 2 [(0, .ref a0z), (1, .int x1z)] := hl
  unfold wp_X7_isUppermost at h
  refine lv_aload_n hx hb dX7_isUppermost_0 rfl (lv_at hl 0 rfl) ?_
  obtain ⟨⟨hL2, fK3⟩, h⟩ := h
  obtain ⟨q4, eq4, h⟩ := h
  refine qr_get (C := RX7) (T := TX7) (N := 35) (ci := 7) hx hb hts in7 hown hG hL2 fK3 (by decide) rfl 9 (by decide) rfl (hts (.fieldLink RX7 26 "QuayMeshModel" "where" "[I") (List.mem_of_getElem? (i := 1) rfl)) (fun _ h9 => h9) (v := .ref q4) (qs_rf eq4) dX7_isUppermost_1 ?_
  refine lv_iload_n hx hb dX7_isUppermost_4 rfl (lv_at hl 1 rfl) ?_
  obtain ⟨⟨hL5, fK6⟩, h⟩ := h
  obtain ⟨hi7, h⟩ := h
  refine qr_iald hx hb hG hL5 fK6 hi7 rfl dX7_isUppermost_5 ?_
  refine lv_topi (fun v8 ev8 => ?_)
  have h := h v8 ev8
  refine lv_iconst (v := (3 : Int32)) hx hb dX7_isUppermost_6 (by decide +kernel) ?_
  refine lv_icmp_ne (tgt := 36) hx hb dX7_isUppermost_7 (by decide) (fun c9 => ?_) (fun c9 => ?_)
  · have h := h.1 c9
    exact b36 SA _ _ ls h hG (lv_sub hl [] rfl)
  · have h := h.2 c9
    refine lv_aload_n hx hb dX7_isUppermost_10 rfl (lv_at hl 0 rfl) ?_
    obtain ⟨q10, eq10, h⟩ := h
    refine qr_get (C := RX7) (T := TX7) (N := 35) (ci := 7) hx hb hts in7 hown hG hL2 fK3 (by decide) rfl 15 (by decide) rfl (hts (.fieldLink RX7 44 "QuayMeshModel" "level" "[I") (List.mem_of_getElem? (i := 2) rfl)) (fun _ h9 => h9) (v := .ref q10) (qs_rf eq10) dX7_isUppermost_11 ?_
    refine lv_iload_n hx hb dX7_isUppermost_14 rfl (lv_at hl 1 rfl) ?_
    obtain ⟨⟨hL11, fK12⟩, h⟩ := h
    obtain ⟨hi13, h⟩ := h
    refine qr_iald hx hb hG hL11 fK12 hi13 rfl dX7_isUppermost_15 ?_
    refine lv_topi (fun v14 ev14 => ?_)
    have h := h v14 ev14
    refine lv_aload_n hx hb dX7_isUppermost_16 rfl (lv_at hl 0 rfl) ?_
    obtain ⟨q15, eq15, h⟩ := h
    refine qr_get (C := RX7) (T := TX7) (N := 35) (ci := 7) hx hb hts in7 hown hG hL2 fK3 (by decide) rfl 14 (by decide) rfl (hts (.fieldLink RX7 41 "QuayMeshModel" "height" "[I") (List.mem_of_getElem? (i := 3) rfl)) (fun _ h9 => h9) (v := .ref q15) (qs_rf eq15) dX7_isUppermost_17 ?_
    refine lv_aload_n hx hb dX7_isUppermost_20 rfl (lv_at hl 0 rfl) ?_
    obtain ⟨q16, eq16, h⟩ := h
    refine qr_get (C := RX7) (T := TX7) (N := 35) (ci := 7) hx hb hts in7 hown hG hL2 fK3 (by decide) rfl 10 (by decide) rfl (hts (.fieldLink RX7 29 "QuayMeshModel" "at" "[I") (List.mem_of_getElem? (i := 4) rfl)) (fun _ h9 => h9) (v := .ref q16) (qs_rf eq16) dX7_isUppermost_21 ?_
    refine lv_iload_n hx hb dX7_isUppermost_24 rfl (lv_at hl 1 rfl) ?_
    obtain ⟨⟨hL17, fK18⟩, h⟩ := h
    obtain ⟨hi19, h⟩ := h
    refine qr_iald hx hb hG hL17 fK18 hi19 rfl dX7_isUppermost_25 ?_
    refine lv_topi (fun v20 ev20 => ?_)
    have h := h v20 ev20
    obtain ⟨⟨hL21, fK22⟩, h⟩ := h
    obtain ⟨hi23, h⟩ := h
    refine qr_iald hx hb hG hL21 fK22 hi23 rfl dX7_isUppermost_26 ?_
    refine lv_topi (fun v24 ev24 => ?_)
    have h := h v24 ev24
    refine lv_iconst (v := (1 : Int32)) hx hb dX7_isUppermost_27 (by decide +kernel) ?_
    refine lv_isub hx hb dX7_isUppermost_28 ?_
    refine lv_topi (fun v25 ev25 => ?_)
    have h := h v25 ev25
    refine lv_icmp_ne (tgt := 36) hx hb dX7_isUppermost_29 (by decide) (fun c26 => ?_) (fun c26 => ?_)
    · have h := h.1 c26
      exact b36 SA _ _ ls h hG (lv_sub hl [] rfl)
    · have h := h.2 c26
      refine lv_iconst (v := (1 : Int32)) hx hb dX7_isUppermost_32 (by decide +kernel) ?_
      refine lv_goto (tgt := 37) hx hb dX7_isUppermost_33 (by decide) ?_
      exact b37 SA (1 : Int32) _ _ ls h hG (lv_sub hl [] rfl)
def wp_X7_isEmpty_b41 (t0 m9 : Nat) (post : Int32 → qs_S → Prop) (K4 : qs_S → Nat → Int32 → Int32 → Int32 → Prop) (S : qs_S) (a0 : Nat) (x1 : Int32) (x3 : Int32) (s0 : Int32) : Prop := ∀ v1 : Int32, v1 = x3 + 1 → K4 S a0 x1 s0 v1
def wp_X7_isEmpty_b36 (t0 m9 : Nat) (post : Int32 → qs_S → Prop) (K4 : qs_S → Nat → Int32 → Int32 → Int32 → Prop) (S : qs_S) (a0 : Nat) (x1 : Int32) (x3 : Int32) : Prop := wp_X7_isEmpty_b41 t0 m9 post K4 S a0 x1 x3 (1 : Int32)
def wp_X7_isEmpty_b40 (t0 m9 : Nat) (post : Int32 → qs_S → Prop) (K4 : qs_S → Nat → Int32 → Int32 → Int32 → Prop) (S : qs_S) (a0 : Nat) (x1 : Int32) (x3 : Int32) : Prop := wp_X7_isEmpty_b41 t0 m9 post K4 S a0 x1 x3 (0 : Int32)
def wp_X7_isEmpty_c4 (t0 m9 : Nat) (post : Int32 → qs_S → Prop) (K4 : qs_S → Nat → Int32 → Int32 → Int32 → Prop) (S : qs_S) (a0 : Nat) (x1 : Int32) (x2 : Int32) (x3 : Int32) : Prop := (a0 ∈ qs_L S ∧ qs_K S a0 = 7) ∧ (∀ v4 : Int32, v4 = qs_I S 6 a0 → (v4 ≤ x3 → ((x2 = 0 ∨ x2 = 1) ∧ post x2 S)) ∧ (¬ v4 ≤ x3 → ((x2 = 0 → (wp_X7_isEmpty_b40 t0 m9 post K4 S a0 x1 x3)) ∧ (¬ x2 = 0 → (∃ q8 : Nat, qs_R S 9 a0 = some q8 ∧ ((q8 ∈ qs_L S ∧ qs_K S q8 = 8) ∧ (vp_in x3 (qs_Z S q8) ∧ (∀ v12 : Int32, v12 = qs_A S q8 x3.toNatClampNeg → (¬ v12 = (2 : Int32) → (wp_X7_isEmpty_b36 t0 m9 post K4 S a0 x1 x3)) ∧ (v12 = (2 : Int32) → (∃ q14 : Nat, qs_R S 10 a0 = some q14 ∧ ((q14 ∈ qs_L S ∧ qs_K S q14 = 8) ∧ (vp_in x3 (qs_Z S q14) ∧ (∀ v18 : Int32, v18 = qs_A S q14 x3.toNatClampNeg → (v18 = x1 → (wp_X7_isEmpty_b40 t0 m9 post K4 S a0 x1 x3)) ∧ (¬ v18 = x1 → (wp_X7_isEmpty_b36 t0 m9 post K4 S a0 x1 x3)))))))))))))))
def wp_X7_isEmpty_b4 (t0 m9 : Nat) (post : Int32 → qs_S → Prop) : Nat → qs_S → Nat → Int32 → Int32 → Int32 → Prop
  | 0 => fun _ _ _ _ _ => False
  | n9 + 1 => wp_X7_isEmpty_c4 t0 m9 post (wp_X7_isEmpty_b4 t0 m9 post n9)
def wp_X7_isEmpty (t0 m9 : Nat) (post : Int32 → qs_S → Prop) (SA : qs_S) (a0z : Nat) (x1z : Int32) : Prop := ∃ n20 : Nat, wp_X7_isEmpty_b4 t0 m9 post n20 SA a0z x1z (1 : Int32) (0 : Int32)
set_option maxHeartbeats 4000000 in
set_option maxRecDepth 100000 in
theorem c_X7_isEmpty (l : Launch) (g : qs_G) (sz : Nat) (SA : qs_S) (a0z : Nat) (x1z : Int32) {post : Int32 → qs_S → Prop} (h : wp_X7_isEmpty g.2.2.2.2.2.2.1 g.2.2.2.2.2.2.2 post SA a0z x1z) : Met l yX7_isEmpty wsX7_isEmpty ({ frames := 0, cells := 0, slots := 0, locals := 0 } : Room) (qs_Pc g sz SA [.ref a0z, .int x1z]) (qs_Qi g (qs_F g SA sz) post) 0 0 (qs_F g SA sz) := by
  refine Met.ofW (cc := cX7_isEmpty) (maxL := 4) (ret := (some .boolean)) (by decide +kernel) rfl ?_
  intro p e s m args below meth c s₁ B hml hv
  obtain ⟨rfl, hsz, hG⟩ := qs_Gd.start hv
  subst hsz
  have hx := B.exec
  have hb := B.bytes
  have hr := B.returns
  have hts := atoms_spec (ws := wsX7_isEmpty) B.pre
  have hown : s.vm.findClass RX7 = some m.cls := findClass_of_methodNamed B.named
  have hlk := B.notSynchronized
  have in7 : ∀ w ∈ u_ws RX7 TX7 35, w ∈ wsX7_isEmpty := fun w h => List.mem_cons_of_mem _ (List.mem_append_right _ (h))
  have b41 : ∀ (K4 : qs_S → Nat → Int32 → Int32 → Int32 → Prop), (∀ (S : qs_S) (a0 : Nat) (x1 : Int32) (x2 : Int32) (x3 : Int32) (H : Heap) (locs : List Loc) (ls : Array Slot), K4 S a0 x1 x2 x3 → qs_Gd g (qs_F g SA s.heap.size) s S H locs → lv_has ls 4 [(0, .ref a0), (1, .int x1), (2, .int x2), (3, .int x3)] → W p l e (headSpec wsX7_isEmpty ({ frames := 0, cells := 0, slots := 0, locals := 0 } : Room)).room s m (([.ref a0z, .int x1z] : List Value)).toArray below meth c H locs 0 0 (MQ below (qs_Qi g (qs_F g SA s.heap.size) post) (([.ref a0z, .int x1z] : List Value)).toArray s 0 0 (qs_F g SA s.heap.size)) (F0 m 4 ls [])) → ∀ (S : qs_S) (a0 : Nat) (x1 : Int32) (x3 : Int32) (s0 : Int32) (H : Heap) (locs : List Loc) (ls : Array Slot), wp_X7_isEmpty_b41 g.2.2.2.2.2.2.1 g.2.2.2.2.2.2.2 post K4 S a0 x1 x3 s0 → qs_Gd g (qs_F g SA s.heap.size) s S H locs → lv_has ls 4 [(0, .ref a0), (1, .int x1), (3, .int x3)] → W p l e (headSpec wsX7_isEmpty ({ frames := 0, cells := 0, slots := 0, locals := 0 } : Room)).room s m (([.ref a0z, .int x1z] : List Value)).toArray below meth c H locs 0 0 (MQ below (qs_Qi g (qs_F g SA s.heap.size) post) (([.ref a0z, .int x1z] : List Value)).toArray s 0 0 (qs_F g SA s.heap.size)) (F0 m 41 ls [.int s0]) := by
    intro K4 hK4 S a0 x1 x3 s0 H locs ls h hG hl
    unfold wp_X7_isEmpty_b41 at h
    refine lv_istore_n (lv' := [(2, .int s0), (0, .ref a0), (1, .int x1), (3, .int x3)]) hx hb dX7_isEmpty_41 rfl hl (by decide) rfl (fun ls hl => ?_)
    obtain ⟨v1, ev1⟩ : ∃ y : Int32, y = x3 + 1 := ⟨_, rfl⟩
    have h := h v1 ev1
    refine lv_iinc (v := v1) (lv' := [(3, .int v1), (2, .int s0), (0, .ref a0), (1, .int x1)]) hx hb dX7_isEmpty_42 hl (k := 3) rfl (by rw [ev1]; rfl) (by decide) rfl (fun ls hl => ?_)
    refine lv_goto (tgt := 4) hx hb dX7_isEmpty_45 (by decide) ?_
    exact hK4 S a0 x1 s0 v1 _ _ ls h hG (lv_sub hl [2, 3, 1, 0] rfl)
  have b36 : ∀ (K4 : qs_S → Nat → Int32 → Int32 → Int32 → Prop), (∀ (S : qs_S) (a0 : Nat) (x1 : Int32) (x2 : Int32) (x3 : Int32) (H : Heap) (locs : List Loc) (ls : Array Slot), K4 S a0 x1 x2 x3 → qs_Gd g (qs_F g SA s.heap.size) s S H locs → lv_has ls 4 [(0, .ref a0), (1, .int x1), (2, .int x2), (3, .int x3)] → W p l e (headSpec wsX7_isEmpty ({ frames := 0, cells := 0, slots := 0, locals := 0 } : Room)).room s m (([.ref a0z, .int x1z] : List Value)).toArray below meth c H locs 0 0 (MQ below (qs_Qi g (qs_F g SA s.heap.size) post) (([.ref a0z, .int x1z] : List Value)).toArray s 0 0 (qs_F g SA s.heap.size)) (F0 m 4 ls [])) → ∀ (S : qs_S) (a0 : Nat) (x1 : Int32) (x3 : Int32) (H : Heap) (locs : List Loc) (ls : Array Slot), wp_X7_isEmpty_b36 g.2.2.2.2.2.2.1 g.2.2.2.2.2.2.2 post K4 S a0 x1 x3 → qs_Gd g (qs_F g SA s.heap.size) s S H locs → lv_has ls 4 [(0, .ref a0), (1, .int x1), (3, .int x3)] → W p l e (headSpec wsX7_isEmpty ({ frames := 0, cells := 0, slots := 0, locals := 0 } : Room)).room s m (([.ref a0z, .int x1z] : List Value)).toArray below meth c H locs 0 0 (MQ below (qs_Qi g (qs_F g SA s.heap.size) post) (([.ref a0z, .int x1z] : List Value)).toArray s 0 0 (qs_F g SA s.heap.size)) (F0 m 36 ls []) := by
    intro K4 hK4 S a0 x1 x3 H locs ls h hG hl
    unfold wp_X7_isEmpty_b36 at h
    refine lv_iconst (v := (1 : Int32)) hx hb dX7_isEmpty_36 (by decide +kernel) ?_
    refine lv_goto (tgt := 41) hx hb dX7_isEmpty_37 (by decide) ?_
    exact b41 K4 hK4 S a0 x1 x3 (1 : Int32) _ _ ls h hG (lv_sub hl [0, 1, 2] rfl)
  have b40 : ∀ (K4 : qs_S → Nat → Int32 → Int32 → Int32 → Prop), (∀ (S : qs_S) (a0 : Nat) (x1 : Int32) (x2 : Int32) (x3 : Int32) (H : Heap) (locs : List Loc) (ls : Array Slot), K4 S a0 x1 x2 x3 → qs_Gd g (qs_F g SA s.heap.size) s S H locs → lv_has ls 4 [(0, .ref a0), (1, .int x1), (2, .int x2), (3, .int x3)] → W p l e (headSpec wsX7_isEmpty ({ frames := 0, cells := 0, slots := 0, locals := 0 } : Room)).room s m (([.ref a0z, .int x1z] : List Value)).toArray below meth c H locs 0 0 (MQ below (qs_Qi g (qs_F g SA s.heap.size) post) (([.ref a0z, .int x1z] : List Value)).toArray s 0 0 (qs_F g SA s.heap.size)) (F0 m 4 ls [])) → ∀ (S : qs_S) (a0 : Nat) (x1 : Int32) (x3 : Int32) (H : Heap) (locs : List Loc) (ls : Array Slot), wp_X7_isEmpty_b40 g.2.2.2.2.2.2.1 g.2.2.2.2.2.2.2 post K4 S a0 x1 x3 → qs_Gd g (qs_F g SA s.heap.size) s S H locs → lv_has ls 4 [(0, .ref a0), (1, .int x1), (3, .int x3)] → W p l e (headSpec wsX7_isEmpty ({ frames := 0, cells := 0, slots := 0, locals := 0 } : Room)).room s m (([.ref a0z, .int x1z] : List Value)).toArray below meth c H locs 0 0 (MQ below (qs_Qi g (qs_F g SA s.heap.size) post) (([.ref a0z, .int x1z] : List Value)).toArray s 0 0 (qs_F g SA s.heap.size)) (F0 m 40 ls []) := by
    intro K4 hK4 S a0 x1 x3 H locs ls h hG hl
    unfold wp_X7_isEmpty_b40 at h
    refine lv_iconst (v := (0 : Int32)) hx hb dX7_isEmpty_40 (by decide +kernel) ?_
    exact b41 K4 hK4 S a0 x1 x3 (0 : Int32) _ _ ls h hG (lv_sub hl [0, 1, 2] rfl)
  have c4 : ∀ (K4 : qs_S → Nat → Int32 → Int32 → Int32 → Prop), (∀ (S : qs_S) (a0 : Nat) (x1 : Int32) (x2 : Int32) (x3 : Int32) (H : Heap) (locs : List Loc) (ls : Array Slot), K4 S a0 x1 x2 x3 → qs_Gd g (qs_F g SA s.heap.size) s S H locs → lv_has ls 4 [(0, .ref a0), (1, .int x1), (2, .int x2), (3, .int x3)] → W p l e (headSpec wsX7_isEmpty ({ frames := 0, cells := 0, slots := 0, locals := 0 } : Room)).room s m (([.ref a0z, .int x1z] : List Value)).toArray below meth c H locs 0 0 (MQ below (qs_Qi g (qs_F g SA s.heap.size) post) (([.ref a0z, .int x1z] : List Value)).toArray s 0 0 (qs_F g SA s.heap.size)) (F0 m 4 ls [])) → ∀ (S : qs_S) (a0 : Nat) (x1 : Int32) (x2 : Int32) (x3 : Int32) (H : Heap) (locs : List Loc) (ls : Array Slot), wp_X7_isEmpty_c4 g.2.2.2.2.2.2.1 g.2.2.2.2.2.2.2 post K4 S a0 x1 x2 x3 → qs_Gd g (qs_F g SA s.heap.size) s S H locs → lv_has ls 4 [(0, .ref a0), (1, .int x1), (2, .int x2), (3, .int x3)] → W p l e (headSpec wsX7_isEmpty ({ frames := 0, cells := 0, slots := 0, locals := 0 } : Room)).room s m (([.ref a0z, .int x1z] : List Value)).toArray below meth c H locs 0 0 (MQ below (qs_Qi g (qs_F g SA s.heap.size) post) (([.ref a0z, .int x1z] : List Value)).toArray s 0 0 (qs_F g SA s.heap.size)) (F0 m 4 ls []) := by
    intro K4 hK4 S a0 x1 x2 x3 H locs ls h hG hl
    unfold wp_X7_isEmpty_c4 at h
    refine lv_iload_n hx hb dX7_isEmpty_4 rfl (lv_at hl 3 rfl) ?_
    refine lv_aload_n hx hb dX7_isEmpty_5 rfl (lv_at hl 0 rfl) ?_
    obtain ⟨⟨hL2, fK3⟩, h⟩ := h
    refine qr_get (C := RX7) (T := TX7) (N := 35) (ci := 7) hx hb hts in7 hown hG hL2 fK3 (by decide) rfl 6 (by decide) rfl (hts (.fieldLink RX7 106 "QuayMeshModel" "boxes" "I") (List.mem_of_getElem? (i := 1) rfl)) (fun _ h9 => h9) (v := .int (qs_I S 6 a0)) rfl dX7_isEmpty_6 ?_
    refine lv_topi (fun v4 ev4 => ?_)
    have h := h v4 ev4
    refine lv_icmp_ge (tgt := 48) hx hb dX7_isEmpty_9 (by decide) (fun c5 => ?_) (fun c5 => ?_)
    · have h := h.1 c5
      refine lv_iload_n hx hb dX7_isEmpty_48 rfl (lv_at hl 2 rfl) ?_
      obtain ⟨z6, h⟩ := h
      exact qe_z hx hb hr hlk z6 hG h (Nat.le_refl _) (Nat.le_refl _) dX7_isEmpty_49
    · have h := h.2 c5
      refine lv_iload_n hx hb dX7_isEmpty_12 rfl (lv_at hl 2 rfl) ?_
      refine lv_if_eq (tgt := 40) hx hb dX7_isEmpty_13 (by decide) (fun c7 => ?_) (fun c7 => ?_)
      · have h := h.1 c7
        exact b40 K4 hK4 S a0 x1 x3 _ _ ls h hG (lv_sub hl [0, 1, 3] rfl)
      · have h := h.2 c7
        refine lv_aload_n hx hb dX7_isEmpty_16 rfl (lv_at hl 0 rfl) ?_
        obtain ⟨q8, eq8, h⟩ := h
        refine qr_get (C := RX7) (T := TX7) (N := 35) (ci := 7) hx hb hts in7 hown hG hL2 fK3 (by decide) rfl 9 (by decide) rfl (hts (.fieldLink RX7 26 "QuayMeshModel" "where" "[I") (List.mem_of_getElem? (i := 2) rfl)) (fun _ h9 => h9) (v := .ref q8) (qs_rf eq8) dX7_isEmpty_17 ?_
        refine lv_iload_n hx hb dX7_isEmpty_20 rfl (lv_at hl 3 rfl) ?_
        obtain ⟨⟨hL9, fK10⟩, h⟩ := h
        obtain ⟨hi11, h⟩ := h
        refine qr_iald hx hb hG hL9 fK10 hi11 rfl dX7_isEmpty_21 ?_
        refine lv_topi (fun v12 ev12 => ?_)
        have h := h v12 ev12
        refine lv_iconst (v := (2 : Int32)) hx hb dX7_isEmpty_22 (by decide +kernel) ?_
        refine lv_icmp_ne (tgt := 36) hx hb dX7_isEmpty_23 (by decide) (fun c13 => ?_) (fun c13 => ?_)
        · have h := h.1 c13
          exact b36 K4 hK4 S a0 x1 x3 _ _ ls h hG (lv_sub hl [0, 1, 3] rfl)
        · have h := h.2 c13
          refine lv_aload_n hx hb dX7_isEmpty_26 rfl (lv_at hl 0 rfl) ?_
          obtain ⟨q14, eq14, h⟩ := h
          refine qr_get (C := RX7) (T := TX7) (N := 35) (ci := 7) hx hb hts in7 hown hG hL2 fK3 (by decide) rfl 10 (by decide) rfl (hts (.fieldLink RX7 29 "QuayMeshModel" "at" "[I") (List.mem_of_getElem? (i := 3) rfl)) (fun _ h9 => h9) (v := .ref q14) (qs_rf eq14) dX7_isEmpty_27 ?_
          refine lv_iload_n hx hb dX7_isEmpty_30 rfl (lv_at hl 3 rfl) ?_
          obtain ⟨⟨hL15, fK16⟩, h⟩ := h
          obtain ⟨hi17, h⟩ := h
          refine qr_iald hx hb hG hL15 fK16 hi17 rfl dX7_isEmpty_31 ?_
          refine lv_topi (fun v18 ev18 => ?_)
          have h := h v18 ev18
          refine lv_iload_n hx hb dX7_isEmpty_32 rfl (lv_at hl 1 rfl) ?_
          refine lv_icmp_eq (tgt := 40) hx hb dX7_isEmpty_33 (by decide) (fun c19 => ?_) (fun c19 => ?_)
          · have h := h.1 c19
            exact b40 K4 hK4 S a0 x1 x3 _ _ ls h hG (lv_sub hl [0, 1, 3] rfl)
          · have h := h.2 c19
            exact b36 K4 hK4 S a0 x1 x3 _ _ ls h hG (lv_sub hl [0, 1, 3] rfl)
  have b4 : ∀ n9 : Nat, ∀ (S : qs_S) (a0 : Nat) (x1 : Int32) (x2 : Int32) (x3 : Int32) (H : Heap) (locs : List Loc) (ls : Array Slot), wp_X7_isEmpty_b4 g.2.2.2.2.2.2.1 g.2.2.2.2.2.2.2 post n9 S a0 x1 x2 x3 → qs_Gd g (qs_F g SA s.heap.size) s S H locs → lv_has ls 4 [(0, .ref a0), (1, .int x1), (2, .int x2), (3, .int x3)] → W p l e (headSpec wsX7_isEmpty ({ frames := 0, cells := 0, slots := 0, locals := 0 } : Room)).room s m (([.ref a0z, .int x1z] : List Value)).toArray below meth c H locs 0 0 (MQ below (qs_Qi g (qs_F g SA s.heap.size) post) (([.ref a0z, .int x1z] : List Value)).toArray s 0 0 (qs_F g SA s.heap.size)) (F0 m 4 ls []) := by
    intro n9
    induction n9 with
    | zero =>
      intro S a0 x1 x2 x3 H locs ls h hG hl
      exact False.elim h
    | succ n9 ih => exact c4 _ ih
  have hl := lv_entry ([.ref a0z, .int x1z]) (n := 4) (Nat.le_of_ble_eq_true rfl)
  rw [lg_entry_eq]
  generalize (lg_sl ([.ref a0z, .int x1z]) ++ List.replicate (4 - (lg_sl ([.ref a0z, .int x1z])).length) Slot.unset).toArray = ls at hl ⊢
  have hl : lv_has ls 4 [(0, .ref a0z), (1, .int x1z)] := hl
  unfold wp_X7_isEmpty at h
  refine lv_iconst (v := (1 : Int32)) hx hb dX7_isEmpty_0 (by decide +kernel) ?_
  refine lv_istore_n (lv' := [(2, .int (1 : Int32)), (0, .ref a0z), (1, .int x1z)]) hx hb dX7_isEmpty_1 rfl hl (by decide) rfl (fun ls hl => ?_)
  refine lv_iconst (v := (0 : Int32)) hx hb dX7_isEmpty_2 (by decide +kernel) ?_
  refine lv_istore_n (lv' := [(3, .int (0 : Int32)), (2, .int (1 : Int32)), (0, .ref a0z), (1, .int x1z)]) hx hb dX7_isEmpty_3 rfl hl (by decide) rfl (fun ls hl => ?_)
  obtain ⟨n20, h⟩ := h
  exact b4 n20 SA a0z x1z (1 : Int32) (0 : Int32) _ _ ls h hG (lv_sub hl [2, 3, 1, 0] rfl)
def wp_X7_finishes (t0 m9 : Nat) (post : Int32 → qs_S → Prop) (SA : qs_S) (a0z : Nat) (x1z : Int32) (x2z : Int32) : Prop := (a0z ∈ qs_L SA ∧ qs_K SA a0z = 7) ∧ (∃ q3 : Nat, qs_R SA 26 a0z = some q3 ∧ ((q3 ∈ qs_L SA ∧ qs_K SA q3 = 8) ∧ (vp_in x2z (qs_Z SA q3) ∧ (∀ v7 : Int32, v7 = qs_A SA q3 x2z.toNatClampNeg → ∀ v8 : Int32, v8 = (1 : Int32) <<< (x1z &&& 31) → ∀ v9 : Int32, v9 = v7 ||| v8 → vp_in x2z (qs_Z SA q3) ∧ (∃ q11 : Nat, qs_R (qs_wA SA q3 x2z.toNatClampNeg v9) 34 a0z = some q11 ∧ ((q11 ∈ qs_L (qs_wA SA q3 x2z.toNatClampNeg v9) ∧ qs_K (qs_wA SA q3 x2z.toNatClampNeg v9) q11 = 8) ∧ (vp_in x1z (qs_Z (qs_wA SA q3 x2z.toNatClampNeg v9) q11) ∧ (wp_X7_acknowledges t0 m9 (fun (v18 : Int32) (S17 : qs_S) => post v18 S17) (qs_wA (qs_wA SA q3 x2z.toNatClampNeg v9) q11 x1z.toNatClampNeg (-1 : Int32)) a0z x1z x2z))))))))
set_option maxHeartbeats 4000000 in
set_option maxRecDepth 100000 in
theorem c_X7_finishes (l : Launch) (g : qs_G) (sz : Nat) (SA : qs_S) (a0z : Nat) (x1z : Int32) (x2z : Int32) {post : Int32 → qs_S → Prop} (h : wp_X7_finishes g.2.2.2.2.2.2.1 g.2.2.2.2.2.2.2 post SA a0z x1z x2z) : Met l yX7_finishes wsX7_finishes ({ frames := 2, cells := 0, slots := 0, locals := 47 } : Room) (qs_Pc g sz SA [.ref a0z, .int x1z, .int x2z]) (qs_Qi g (qs_F g SA sz) post) 0 0 (qs_F g SA sz) := by
  refine Met.ofW (cc := cX7_finishes) (maxL := 3) (ret := (some .int)) (by decide +kernel) rfl ?_
  intro p e s m args below meth c s₁ B hml hv
  obtain ⟨rfl, hsz, hG⟩ := qs_Gd.start hv
  subst hsz
  have hx := B.exec
  have hb := B.bytes
  have hr := B.returns
  have hts := atoms_spec (ws := wsX7_finishes) B.pre
  have hown : s.vm.findClass RX7 = some m.cls := findClass_of_methodNamed B.named
  have hlk := B.notSynchronized
  have in7 : ∀ w ∈ u_ws RX7 TX7 35, w ∈ wsX7_finishes := fun w h => List.mem_cons_of_mem _ (List.mem_append_right _ (h))
  have hl := lv_entry ([.ref a0z, .int x1z, .int x2z]) (n := 3) (Nat.le_of_ble_eq_true rfl)
  rw [lg_entry_eq]
  generalize (lg_sl ([.ref a0z, .int x1z, .int x2z]) ++ List.replicate (3 - (lg_sl ([.ref a0z, .int x1z, .int x2z])).length) Slot.unset).toArray = ls at hl ⊢
  have hl : lv_has ls 3 [(0, .ref a0z), (1, .int x1z), (2, .int x2z)] := hl
  unfold wp_X7_finishes at h
  refine lv_aload_n hx hb dX7_finishes_0 rfl (lv_at hl 0 rfl) ?_
  obtain ⟨⟨hL1, fK2⟩, h⟩ := h
  obtain ⟨q3, eq3, h⟩ := h
  refine qr_get (C := RX7) (T := TX7) (N := 35) (ci := 7) hx hb hts in7 hown hG hL1 fK2 (by decide) rfl 26 (by decide) rfl (hts (.fieldLink RX7 71 "QuayMeshModel" "doneBy" "[I") (List.mem_of_getElem? (i := 1) rfl)) (fun _ h9 => h9) (v := .ref q3) (qs_rf eq3) dX7_finishes_1 ?_
  refine lv_iload_n hx hb dX7_finishes_4 rfl (lv_at hl 2 rfl) ?_
  refine lv_dup2_11 hx hb dX7_finishes_5 rfl rfl ?_
  obtain ⟨⟨hL4, fK5⟩, h⟩ := h
  obtain ⟨hi6, h⟩ := h
  refine qr_iald hx hb hG hL4 fK5 hi6 rfl dX7_finishes_6 ?_
  refine lv_topi (fun v7 ev7 => ?_)
  have h := h v7 ev7
  refine lv_iconst (v := (1 : Int32)) hx hb dX7_finishes_7 (by decide +kernel) ?_
  refine lv_iload_n hx hb dX7_finishes_8 rfl (lv_at hl 1 rfl) ?_
  refine lv_ishl hx hb dX7_finishes_9 ?_
  refine lv_topi (fun v8 ev8 => ?_)
  have h := h v8 ev8
  refine lv_ior hx hb dX7_finishes_10 ?_
  refine lv_topi (fun v9 ev9 => ?_)
  have h := h v9 ev9
  obtain ⟨hi10, h⟩ := h
  refine qr_iast hx hb hG hL4 fK5 hi10 dX7_finishes_11 (fun H locs hG => ?_)
  refine lv_aload_n hx hb dX7_finishes_12 rfl (lv_at hl 0 rfl) ?_
  obtain ⟨q11, eq11, h⟩ := h
  refine qr_get (C := RX7) (T := TX7) (N := 35) (ci := 7) hx hb hts in7 hown hG hL1 fK2 (by decide) rfl 34 (by decide) rfl (hts (.fieldLink RX7 92 "QuayMeshModel" "seen" "[I") (List.mem_of_getElem? (i := 2) rfl)) (fun _ h9 => h9) (v := .ref q11) (qs_rf eq11) dX7_finishes_13 ?_
  refine lv_iload_n hx hb dX7_finishes_16 rfl (lv_at hl 1 rfl) ?_
  refine lv_iconst (v := (-1 : Int32)) hx hb dX7_finishes_17 (by decide +kernel) ?_
  obtain ⟨⟨hL12, fK13⟩, h⟩ := h
  obtain ⟨hi14, h⟩ := h
  refine qr_iast hx hb hG hL12 fK13 hi14 dX7_finishes_18 (fun H locs hG => ?_)
  refine lv_aload_n hx hb dX7_finishes_19 rfl (lv_at hl 0 rfl) ?_
  refine lv_iload_n hx hb dX7_finishes_20 rfl (lv_at hl 1 rfl) ?_
  refine lv_iload_n hx hb dX7_finishes_21 rfl (lv_at hl 2 rfl) ?_
  refine qc_i hG (va_runV (As := [.int x1z, .int x2z]) (rest := []) ⟨hx, hb, hml, hown, hts⟩ (c_X7_acknowledges l g _ (qs_wA (qs_wA SA q3 x2z.toNatClampNeg v9) q11 x1z.toNatClampNeg (-1 : Int32)) a0z x1z x2z h) (cwV 2 hts gX7_finishes_X7_acknowledges rfl rfl rfl (by decide +kernel) ⟨(Nat.le_of_ble_eq_true rfl), (Nat.le_of_ble_eq_true rfl)⟩) ⟨qs_Pc.blind _ _ _ _, hG.recv hL1 fK2 (by decide) rfl, hG.pre _⟩ rfl rfl hl.1 rfl (lv_room (Nat.le_of_ble_eq_true rfl)) dX7_finishes_22 ⟨Nat.zero_le _, Nat.zero_le _⟩) (fun v18 S17 H locs h hG => ?_)
  exact qe_i hx hb hr hlk hG h (Nat.le_refl _) (Nat.le_refl _) dX7_finishes_25
def wp_X7_puts_b161 (t0 m9 : Nat) (post : Int32 → qs_S → Prop) (S : qs_S) : Prop := post (0 : Int32) S
def wp_X7_puts_b90 (t0 m9 : Nat) (post : Int32 → qs_S → Prop) (S : qs_S) (a0 : Nat) (x1 : Int32) (x2 : Int32) : Prop := (a0 ∈ qs_L S ∧ qs_K S a0 = 7) ∧ (∃ q3 : Nat, qs_R S 19 a0 = some q3 ∧ ((q3 ∈ qs_L S ∧ qs_K S q3 = 8) ∧ (vp_in x1 (qs_Z S q3) ∧ (∀ v7 : Int32, v7 = qs_A S q3 x1.toNatClampNeg → (¬ v7 = (2 : Int32) → (wp_X7_puts_b161 t0 m9 post S)) ∧ (v7 = (2 : Int32) → (∃ q9 : Nat, qs_R S 12 a0 = some q9 ∧ ((q9 ∈ qs_L S ∧ qs_K S q9 = 8) ∧ (vp_in x2 (qs_Z S q9) ∧ (∀ v13 : Int32, v13 = qs_A S q9 x2.toNatClampNeg → ∀ v14 : Int32, v14 = qs_I S 1 a0 → (¬ v13 = v14 → (wp_X7_puts_b161 t0 m9 post S)) ∧ (v13 = v14 → (∃ q16 : Nat, qs_R S 13 a0 = some q16 ∧ ((q16 ∈ qs_L S ∧ qs_K S q16 = 8) ∧ (vp_in x2 (qs_Z S q16) ∧ (∀ v20 : Int32, v20 = qs_A S q16 x2.toNatClampNeg → ∃ q21 : Nat, qs_R S 21 a0 = some q21 ∧ ((q21 ∈ qs_L S ∧ qs_K S q21 = 8) ∧ (vp_in x1 (qs_Z S q21) ∧ (∀ v25 : Int32, v25 = qs_A S q21 x1.toNatClampNeg → (¬ v20 = v25 → (wp_X7_puts_b161 t0 m9 post S)) ∧ (v20 = v25 → (∃ q27 : Nat, qs_R S 9 a0 = some q27 ∧ ((q27 ∈ qs_L S ∧ qs_K S q27 = 8) ∧ (vp_in x2 (qs_Z S q27) ∧ (∃ q31 : Nat, qs_R (qs_wA S q27 x2.toNatClampNeg (4 : Int32)) 10 a0 = some q31 ∧ (∃ q32 : Nat, qs_R (qs_wA S q27 x2.toNatClampNeg (4 : Int32)) 21 a0 = some q32 ∧ ((q32 ∈ qs_L (qs_wA S q27 x2.toNatClampNeg (4 : Int32)) ∧ qs_K (qs_wA S q27 x2.toNatClampNeg (4 : Int32)) q32 = 8) ∧ (vp_in x1 (qs_Z (qs_wA S q27 x2.toNatClampNeg (4 : Int32)) q32) ∧ (∀ v36 : Int32, v36 = qs_A (qs_wA S q27 x2.toNatClampNeg (4 : Int32)) q32 x1.toNatClampNeg → (q31 ∈ qs_L (qs_wA S q27 x2.toNatClampNeg (4 : Int32)) ∧ qs_K (qs_wA S q27 x2.toNatClampNeg (4 : Int32)) q31 = 8) ∧ (vp_in x2 (qs_Z (qs_wA S q27 x2.toNatClampNeg (4 : Int32)) q31) ∧ (∃ q40 : Nat, qs_R (qs_wA (qs_wA S q27 x2.toNatClampNeg (4 : Int32)) q31 x2.toNatClampNeg v36) 12 a0 = some q40 ∧ ((q40 ∈ qs_L (qs_wA (qs_wA S q27 x2.toNatClampNeg (4 : Int32)) q31 x2.toNatClampNeg v36) ∧ qs_K (qs_wA (qs_wA S q27 x2.toNatClampNeg (4 : Int32)) q31 x2.toNatClampNeg v36) q40 = 8) ∧ (vp_in x2 (qs_Z (qs_wA (qs_wA S q27 x2.toNatClampNeg (4 : Int32)) q31 x2.toNatClampNeg v36) q40) ∧ (wp_X7_makes t0 m9 (fun (S46 : qs_S) => post (1 : Int32) S46) (qs_wA (qs_wA (qs_wA S q27 x2.toNatClampNeg (4 : Int32)) q31 x2.toNatClampNeg v36) q40 x2.toNatClampNeg (-1 : Int32)) a0 x1)))))))))))))))))))))))))))))))
def wp_X7_puts (t0 m9 : Nat) (post : Int32 → qs_S → Prop) (SA : qs_S) (a0z : Nat) (x1z : Int32) : Prop := (a0z ∈ qs_L SA ∧ qs_K SA a0z = 7) ∧ (∃ q49 : Nat, qs_R SA 20 a0z = some q49 ∧ ((q49 ∈ qs_L SA ∧ qs_K SA q49 = 8) ∧ (vp_in x1z (qs_Z SA q49) ∧ (∀ v53 : Int32, v53 = qs_A SA q49 x1z.toNatClampNeg → ∃ q54 : Nat, qs_R SA 19 a0z = some q54 ∧ ((q54 ∈ qs_L SA ∧ qs_K SA q54 = 8) ∧ (vp_in x1z (qs_Z SA q54) ∧ (∀ v58 : Int32, v58 = qs_A SA q54 x1z.toNatClampNeg → (¬ v58 = (1 : Int32) → (wp_X7_puts_b90 t0 m9 post SA a0z x1z v53)) ∧ (v58 = (1 : Int32) → (∃ q60 : Nat, qs_R SA 14 a0z = some q60 ∧ (∃ q61 : Nat, qs_R SA 21 a0z = some q61 ∧ ((q61 ∈ qs_L SA ∧ qs_K SA q61 = 8) ∧ (vp_in x1z (qs_Z SA q61) ∧ (∀ v65 : Int32, v65 = qs_A SA q61 x1z.toNatClampNeg → (q60 ∈ qs_L SA ∧ qs_K SA q60 = 8) ∧ (vp_in v65 (qs_Z SA q60) ∧ (∀ v69 : Int32, v69 = qs_A SA q60 v65.toNatClampNeg → ((4 : Int32) ≤ v69 → (wp_X7_puts_b90 t0 m9 post SA a0z x1z v53)) ∧ (¬ (4 : Int32) ≤ v69 → (∃ q71 : Nat, qs_R SA 9 a0z = some q71 ∧ ((q71 ∈ qs_L SA ∧ qs_K SA q71 = 8) ∧ (vp_in v53 (qs_Z SA q71) ∧ (∃ q75 : Nat, qs_R (qs_wA SA q71 v53.toNatClampNeg (3 : Int32)) 10 a0z = some q75 ∧ (∃ q76 : Nat, qs_R (qs_wA SA q71 v53.toNatClampNeg (3 : Int32)) 21 a0z = some q76 ∧ ((q76 ∈ qs_L (qs_wA SA q71 v53.toNatClampNeg (3 : Int32)) ∧ qs_K (qs_wA SA q71 v53.toNatClampNeg (3 : Int32)) q76 = 8) ∧ (vp_in x1z (qs_Z (qs_wA SA q71 v53.toNatClampNeg (3 : Int32)) q76) ∧ (∀ v80 : Int32, v80 = qs_A (qs_wA SA q71 v53.toNatClampNeg (3 : Int32)) q76 x1z.toNatClampNeg → (q75 ∈ qs_L (qs_wA SA q71 v53.toNatClampNeg (3 : Int32)) ∧ qs_K (qs_wA SA q71 v53.toNatClampNeg (3 : Int32)) q75 = 8) ∧ (vp_in v53 (qs_Z (qs_wA SA q71 v53.toNatClampNeg (3 : Int32)) q75) ∧ (∃ q84 : Nat, qs_R (qs_wA (qs_wA SA q71 v53.toNatClampNeg (3 : Int32)) q75 v53.toNatClampNeg v80) 15 a0z = some q84 ∧ (∃ q85 : Nat, qs_R (qs_wA (qs_wA SA q71 v53.toNatClampNeg (3 : Int32)) q75 v53.toNatClampNeg v80) 14 a0z = some q85 ∧ (∃ q86 : Nat, qs_R (qs_wA (qs_wA SA q71 v53.toNatClampNeg (3 : Int32)) q75 v53.toNatClampNeg v80) 21 a0z = some q86 ∧ ((q86 ∈ qs_L (qs_wA (qs_wA SA q71 v53.toNatClampNeg (3 : Int32)) q75 v53.toNatClampNeg v80) ∧ qs_K (qs_wA (qs_wA SA q71 v53.toNatClampNeg (3 : Int32)) q75 v53.toNatClampNeg v80) q86 = 8) ∧ (vp_in x1z (qs_Z (qs_wA (qs_wA SA q71 v53.toNatClampNeg (3 : Int32)) q75 v53.toNatClampNeg v80) q86) ∧ (∀ v90 : Int32, v90 = qs_A (qs_wA (qs_wA SA q71 v53.toNatClampNeg (3 : Int32)) q75 v53.toNatClampNeg v80) q86 x1z.toNatClampNeg → (q85 ∈ qs_L (qs_wA (qs_wA SA q71 v53.toNatClampNeg (3 : Int32)) q75 v53.toNatClampNeg v80) ∧ qs_K (qs_wA (qs_wA SA q71 v53.toNatClampNeg (3 : Int32)) q75 v53.toNatClampNeg v80) q85 = 8) ∧ (vp_in v90 (qs_Z (qs_wA (qs_wA SA q71 v53.toNatClampNeg (3 : Int32)) q75 v53.toNatClampNeg v80) q85) ∧ (∀ v94 : Int32, v94 = qs_A (qs_wA (qs_wA SA q71 v53.toNatClampNeg (3 : Int32)) q75 v53.toNatClampNeg v80) q85 v90.toNatClampNeg → (q84 ∈ qs_L (qs_wA (qs_wA SA q71 v53.toNatClampNeg (3 : Int32)) q75 v53.toNatClampNeg v80) ∧ qs_K (qs_wA (qs_wA SA q71 v53.toNatClampNeg (3 : Int32)) q75 v53.toNatClampNeg v80) q84 = 8) ∧ (vp_in v53 (qs_Z (qs_wA (qs_wA SA q71 v53.toNatClampNeg (3 : Int32)) q75 v53.toNatClampNeg v80) q84) ∧ (∃ q98 : Nat, qs_R (qs_wA (qs_wA (qs_wA SA q71 v53.toNatClampNeg (3 : Int32)) q75 v53.toNatClampNeg v80) q84 v53.toNatClampNeg v94) 14 a0z = some q98 ∧ (∃ q99 : Nat, qs_R (qs_wA (qs_wA (qs_wA SA q71 v53.toNatClampNeg (3 : Int32)) q75 v53.toNatClampNeg v80) q84 v53.toNatClampNeg v94) 21 a0z = some q99 ∧ ((q99 ∈ qs_L (qs_wA (qs_wA (qs_wA SA q71 v53.toNatClampNeg (3 : Int32)) q75 v53.toNatClampNeg v80) q84 v53.toNatClampNeg v94) ∧ qs_K (qs_wA (qs_wA (qs_wA SA q71 v53.toNatClampNeg (3 : Int32)) q75 v53.toNatClampNeg v80) q84 v53.toNatClampNeg v94) q99 = 8) ∧ (vp_in x1z (qs_Z (qs_wA (qs_wA (qs_wA SA q71 v53.toNatClampNeg (3 : Int32)) q75 v53.toNatClampNeg v80) q84 v53.toNatClampNeg v94) q99) ∧ (∀ v103 : Int32, v103 = qs_A (qs_wA (qs_wA (qs_wA SA q71 v53.toNatClampNeg (3 : Int32)) q75 v53.toNatClampNeg v80) q84 v53.toNatClampNeg v94) q99 x1z.toNatClampNeg → (q98 ∈ qs_L (qs_wA (qs_wA (qs_wA SA q71 v53.toNatClampNeg (3 : Int32)) q75 v53.toNatClampNeg v80) q84 v53.toNatClampNeg v94) ∧ qs_K (qs_wA (qs_wA (qs_wA SA q71 v53.toNatClampNeg (3 : Int32)) q75 v53.toNatClampNeg v80) q84 v53.toNatClampNeg v94) q98 = 8) ∧ (vp_in v103 (qs_Z (qs_wA (qs_wA (qs_wA SA q71 v53.toNatClampNeg (3 : Int32)) q75 v53.toNatClampNeg v80) q84 v53.toNatClampNeg v94) q98) ∧ (∀ v107 : Int32, v107 = qs_A (qs_wA (qs_wA (qs_wA SA q71 v53.toNatClampNeg (3 : Int32)) q75 v53.toNatClampNeg v80) q84 v53.toNatClampNeg v94) q98 v103.toNatClampNeg → ∀ v108 : Int32, v108 = v107 + (1 : Int32) → vp_in v103 (qs_Z (qs_wA (qs_wA (qs_wA SA q71 v53.toNatClampNeg (3 : Int32)) q75 v53.toNatClampNeg v80) q84 v53.toNatClampNeg v94) q98) ∧ (wp_X7_makes t0 m9 (fun (S112 : qs_S) => post (1 : Int32) S112) (qs_wA (qs_wA (qs_wA (qs_wA SA q71 v53.toNatClampNeg (3 : Int32)) q75 v53.toNatClampNeg v80) q84 v53.toNatClampNeg v94) q98 v103.toNatClampNeg v108) a0z x1z))))))))))))))))))))))))))))))))))))))))))
set_option maxHeartbeats 4000000 in
set_option maxRecDepth 100000 in
theorem c_X7_puts (l : Launch) (g : qs_G) (sz : Nat) (SA : qs_S) (a0z : Nat) (x1z : Int32) {post : Int32 → qs_S → Prop} (h : wp_X7_puts g.2.2.2.2.2.2.1 g.2.2.2.2.2.2.2 post SA a0z x1z) : Met l yX7_puts wsX7_puts ({ frames := 1, cells := 0, slots := 0, locals := 21 } : Room) (qs_Pc g sz SA [.ref a0z, .int x1z]) (qs_Qi g (qs_F g SA sz) post) 0 0 (qs_F g SA sz) := by
  refine Met.ofW (cc := cX7_puts) (maxL := 3) (ret := (some .boolean)) (by decide +kernel) rfl ?_
  intro p e s m args below meth c s₁ B hml hv
  obtain ⟨rfl, hsz, hG⟩ := qs_Gd.start hv
  subst hsz
  have hx := B.exec
  have hb := B.bytes
  have hr := B.returns
  have hts := atoms_spec (ws := wsX7_puts) B.pre
  have hown : s.vm.findClass RX7 = some m.cls := findClass_of_methodNamed B.named
  have hlk := B.notSynchronized
  have in7 : ∀ w ∈ u_ws RX7 TX7 35, w ∈ wsX7_puts := fun w h => List.mem_cons_of_mem _ (List.mem_append_right _ (h))
  have b161 : ∀ (S : qs_S) (H : Heap) (locs : List Loc) (ls : Array Slot), wp_X7_puts_b161 g.2.2.2.2.2.2.1 g.2.2.2.2.2.2.2 post S → qs_Gd g (qs_F g SA s.heap.size) s S H locs → lv_has ls 3 [] → W p l e (headSpec wsX7_puts ({ frames := 1, cells := 0, slots := 0, locals := 21 } : Room)).room s m (([.ref a0z, .int x1z] : List Value)).toArray below meth c H locs 0 0 (MQ below (qs_Qi g (qs_F g SA s.heap.size) post) (([.ref a0z, .int x1z] : List Value)).toArray s 0 0 (qs_F g SA s.heap.size)) (F0 m 161 ls []) := by
    intro S H locs ls h hG hl
    unfold wp_X7_puts_b161 at h
    refine lv_iconst (v := (0 : Int32)) hx hb dX7_puts_161 (by decide +kernel) ?_
    exact qe_z hx hb hr hlk (Or.inl rfl) hG h (Nat.le_refl _) (Nat.le_refl _) dX7_puts_162
  have b90 : ∀ (S : qs_S) (a0 : Nat) (x1 : Int32) (x2 : Int32) (H : Heap) (locs : List Loc) (ls : Array Slot), wp_X7_puts_b90 g.2.2.2.2.2.2.1 g.2.2.2.2.2.2.2 post S a0 x1 x2 → qs_Gd g (qs_F g SA s.heap.size) s S H locs → lv_has ls 3 [(0, .ref a0), (1, .int x1), (2, .int x2)] → W p l e (headSpec wsX7_puts ({ frames := 1, cells := 0, slots := 0, locals := 21 } : Room)).room s m (([.ref a0z, .int x1z] : List Value)).toArray below meth c H locs 0 0 (MQ below (qs_Qi g (qs_F g SA s.heap.size) post) (([.ref a0z, .int x1z] : List Value)).toArray s 0 0 (qs_F g SA s.heap.size)) (F0 m 90 ls []) := by
    intro S a0 x1 x2 H locs ls h hG hl
    unfold wp_X7_puts_b90 at h
    refine lv_aload_n hx hb dX7_puts_90 rfl (lv_at hl 0 rfl) ?_
    obtain ⟨⟨hL1, fK2⟩, h⟩ := h
    obtain ⟨q3, eq3, h⟩ := h
    refine qr_get (C := RX7) (T := TX7) (N := 35) (ci := 7) hx hb hts in7 hown hG hL1 fK2 (by decide) rfl 19 (by decide) rfl (hts (.fieldLink RX7 53 "QuayMeshModel" "kind" "[I") (List.mem_of_getElem? (i := 2) rfl)) (fun _ h9 => h9) (v := .ref q3) (qs_rf eq3) dX7_puts_91 ?_
    refine lv_iload_n hx hb dX7_puts_94 rfl (lv_at hl 1 rfl) ?_
    obtain ⟨⟨hL4, fK5⟩, h⟩ := h
    obtain ⟨hi6, h⟩ := h
    refine qr_iald hx hb hG hL4 fK5 hi6 rfl dX7_puts_95 ?_
    refine lv_topi (fun v7 ev7 => ?_)
    have h := h v7 ev7
    refine lv_iconst (v := (2 : Int32)) hx hb dX7_puts_96 (by decide +kernel) ?_
    refine lv_icmp_ne (tgt := 161) hx hb dX7_puts_97 (by decide) (fun c8 => ?_) (fun c8 => ?_)
    · have h := h.1 c8
      exact b161 S _ _ ls h hG (lv_sub hl [] rfl)
    · have h := h.2 c8
      refine lv_aload_n hx hb dX7_puts_100 rfl (lv_at hl 0 rfl) ?_
      obtain ⟨q9, eq9, h⟩ := h
      refine qr_get (C := RX7) (T := TX7) (N := 35) (ci := 7) hx hb hts in7 hown hG hL1 fK2 (by decide) rfl 12 (by decide) rfl (hts (.fieldLink RX7 35 "QuayMeshModel" "booked" "[I") (List.mem_of_getElem? (i := 8) rfl)) (fun _ h9 => h9) (v := .ref q9) (qs_rf eq9) dX7_puts_101 ?_
      refine lv_iload_n hx hb dX7_puts_104 rfl (lv_at hl 2 rfl) ?_
      obtain ⟨⟨hL10, fK11⟩, h⟩ := h
      obtain ⟨hi12, h⟩ := h
      refine qr_iald hx hb hG hL10 fK11 hi12 rfl dX7_puts_105 ?_
      refine lv_topi (fun v13 ev13 => ?_)
      have h := h v13 ev13
      refine lv_aload_n hx hb dX7_puts_106 rfl (lv_at hl 0 rfl) ?_
      refine qr_get (C := RX7) (T := TX7) (N := 35) (ci := 7) hx hb hts in7 hown hG hL1 fK2 (by decide) rfl 1 (by decide) rfl (hts (.fieldLink RX7 172 "QuayMeshModel" "hour" "I") (List.mem_of_getElem? (i := 9) rfl)) (fun _ h9 => h9) (v := .int (qs_I S 1 a0)) rfl dX7_puts_107 ?_
      refine lv_topi (fun v14 ev14 => ?_)
      have h := h v14 ev14
      refine lv_icmp_ne (tgt := 161) hx hb dX7_puts_110 (by decide) (fun c15 => ?_) (fun c15 => ?_)
      · have h := h.1 c15
        exact b161 S _ _ ls h hG (lv_sub hl [] rfl)
      · have h := h.2 c15
        refine lv_aload_n hx hb dX7_puts_113 rfl (lv_at hl 0 rfl) ?_
        obtain ⟨q16, eq16, h⟩ := h
        refine qr_get (C := RX7) (T := TX7) (N := 35) (ci := 7) hx hb hts in7 hown hG hL1 fK2 (by decide) rfl 13 (by decide) rfl (hts (.fieldLink RX7 38 "QuayMeshModel" "gate" "[I") (List.mem_of_getElem? (i := 10) rfl)) (fun _ h9 => h9) (v := .ref q16) (qs_rf eq16) dX7_puts_114 ?_
        refine lv_iload_n hx hb dX7_puts_117 rfl (lv_at hl 2 rfl) ?_
        obtain ⟨⟨hL17, fK18⟩, h⟩ := h
        obtain ⟨hi19, h⟩ := h
        refine qr_iald hx hb hG hL17 fK18 hi19 rfl dX7_puts_118 ?_
        refine lv_topi (fun v20 ev20 => ?_)
        have h := h v20 ev20
        refine lv_aload_n hx hb dX7_puts_119 rfl (lv_at hl 0 rfl) ?_
        obtain ⟨q21, eq21, h⟩ := h
        refine qr_get (C := RX7) (T := TX7) (N := 35) (ci := 7) hx hb hts in7 hown hG hL1 fK2 (by decide) rfl 21 (by decide) rfl (hts (.fieldLink RX7 59 "QuayMeshModel" "target" "[I") (List.mem_of_getElem? (i := 4) rfl)) (fun _ h9 => h9) (v := .ref q21) (qs_rf eq21) dX7_puts_120 ?_
        refine lv_iload_n hx hb dX7_puts_123 rfl (lv_at hl 1 rfl) ?_
        obtain ⟨⟨hL22, fK23⟩, h⟩ := h
        obtain ⟨hi24, h⟩ := h
        refine qr_iald hx hb hG hL22 fK23 hi24 rfl dX7_puts_124 ?_
        refine lv_topi (fun v25 ev25 => ?_)
        have h := h v25 ev25
        refine lv_icmp_ne (tgt := 161) hx hb dX7_puts_125 (by decide) (fun c26 => ?_) (fun c26 => ?_)
        · have h := h.1 c26
          exact b161 S _ _ ls h hG (lv_sub hl [] rfl)
        · have h := h.2 c26
          refine lv_aload_n hx hb dX7_puts_128 rfl (lv_at hl 0 rfl) ?_
          obtain ⟨q27, eq27, h⟩ := h
          refine qr_get (C := RX7) (T := TX7) (N := 35) (ci := 7) hx hb hts in7 hown hG hL1 fK2 (by decide) rfl 9 (by decide) rfl (hts (.fieldLink RX7 26 "QuayMeshModel" "where" "[I") (List.mem_of_getElem? (i := 5) rfl)) (fun _ h9 => h9) (v := .ref q27) (qs_rf eq27) dX7_puts_129 ?_
          refine lv_iload_n hx hb dX7_puts_132 rfl (lv_at hl 2 rfl) ?_
          refine lv_iconst (v := (4 : Int32)) hx hb dX7_puts_133 (by decide +kernel) ?_
          obtain ⟨⟨hL28, fK29⟩, h⟩ := h
          obtain ⟨hi30, h⟩ := h
          refine qr_iast hx hb hG hL28 fK29 hi30 dX7_puts_134 (fun H locs hG => ?_)
          refine lv_aload_n hx hb dX7_puts_135 rfl (lv_at hl 0 rfl) ?_
          obtain ⟨q31, eq31, h⟩ := h
          refine qr_get (C := RX7) (T := TX7) (N := 35) (ci := 7) hx hb hts in7 hown hG hL1 fK2 (by decide) rfl 10 (by decide) rfl (hts (.fieldLink RX7 29 "QuayMeshModel" "at" "[I") (List.mem_of_getElem? (i := 6) rfl)) (fun _ h9 => h9) (v := .ref q31) (qs_rf eq31) dX7_puts_136 ?_
          refine lv_iload_n hx hb dX7_puts_139 rfl (lv_at hl 2 rfl) ?_
          refine lv_aload_n hx hb dX7_puts_140 rfl (lv_at hl 0 rfl) ?_
          obtain ⟨q32, eq32, h⟩ := h
          refine qr_get (C := RX7) (T := TX7) (N := 35) (ci := 7) hx hb hts in7 hown hG hL1 fK2 (by decide) rfl 21 (by decide) rfl (hts (.fieldLink RX7 59 "QuayMeshModel" "target" "[I") (List.mem_of_getElem? (i := 4) rfl)) (fun _ h9 => h9) (v := .ref q32) (qs_rf eq32) dX7_puts_141 ?_
          refine lv_iload_n hx hb dX7_puts_144 rfl (lv_at hl 1 rfl) ?_
          obtain ⟨⟨hL33, fK34⟩, h⟩ := h
          obtain ⟨hi35, h⟩ := h
          refine qr_iald hx hb hG hL33 fK34 hi35 rfl dX7_puts_145 ?_
          refine lv_topi (fun v36 ev36 => ?_)
          have h := h v36 ev36
          obtain ⟨⟨hL37, fK38⟩, h⟩ := h
          obtain ⟨hi39, h⟩ := h
          refine qr_iast hx hb hG hL37 fK38 hi39 dX7_puts_146 (fun H locs hG => ?_)
          refine lv_aload_n hx hb dX7_puts_147 rfl (lv_at hl 0 rfl) ?_
          obtain ⟨q40, eq40, h⟩ := h
          refine qr_get (C := RX7) (T := TX7) (N := 35) (ci := 7) hx hb hts in7 hown hG hL1 fK2 (by decide) rfl 12 (by decide) rfl (hts (.fieldLink RX7 35 "QuayMeshModel" "booked" "[I") (List.mem_of_getElem? (i := 8) rfl)) (fun _ h9 => h9) (v := .ref q40) (qs_rf eq40) dX7_puts_148 ?_
          refine lv_iload_n hx hb dX7_puts_151 rfl (lv_at hl 2 rfl) ?_
          refine lv_iconst (v := (-1 : Int32)) hx hb dX7_puts_152 (by decide +kernel) ?_
          obtain ⟨⟨hL41, fK42⟩, h⟩ := h
          obtain ⟨hi43, h⟩ := h
          refine qr_iast hx hb hG hL41 fK42 hi43 dX7_puts_153 (fun H locs hG => ?_)
          refine lv_aload_n hx hb dX7_puts_154 rfl (lv_at hl 0 rfl) ?_
          refine lv_iload_n hx hb dX7_puts_155 rfl (lv_at hl 1 rfl) ?_
          refine qc_v hG (va_runV (As := [.int x1]) (rest := []) ⟨hx, hb, hml, hown, hts⟩ (c_X7_makes l g _ (qs_wA (qs_wA (qs_wA S q27 x2.toNatClampNeg (4 : Int32)) q31 x2.toNatClampNeg v36) q40 x2.toNatClampNeg (-1 : Int32)) a0 x1 h) (cwV 1 hts gX7_puts_X7_makes rfl rfl rfl (by decide +kernel) ⟨(Nat.le_of_ble_eq_true rfl), (Nat.le_of_ble_eq_true rfl)⟩) ⟨qs_Pc.blind _ _ _ _, hG.recv hL1 fK2 (by decide) rfl, hG.pre _⟩ rfl rfl hl.1 rfl (lv_room (Nat.le_of_ble_eq_true rfl)) dX7_puts_156 ⟨Nat.zero_le _, Nat.zero_le _⟩) (fun S46 H locs h hG => ?_)
          refine lv_iconst (v := (1 : Int32)) hx hb dX7_puts_159 (by decide +kernel) ?_
          exact qe_z hx hb hr hlk (Or.inr rfl) hG h (Nat.le_refl _) (Nat.le_refl _) dX7_puts_160
  have hl := lv_entry ([.ref a0z, .int x1z]) (n := 3) (Nat.le_of_ble_eq_true rfl)
  rw [lg_entry_eq]
  generalize (lg_sl ([.ref a0z, .int x1z]) ++ List.replicate (3 - (lg_sl ([.ref a0z, .int x1z])).length) Slot.unset).toArray = ls at hl ⊢
  have hl : lv_has ls 3 [(0, .ref a0z), (1, .int x1z)] := hl
  unfold wp_X7_puts at h
  refine lv_aload_n hx hb dX7_puts_0 rfl (lv_at hl 0 rfl) ?_
  obtain ⟨⟨hL47, fK48⟩, h⟩ := h
  obtain ⟨q49, eq49, h⟩ := h
  refine qr_get (C := RX7) (T := TX7) (N := 35) (ci := 7) hx hb hts in7 hown hG hL47 fK48 (by decide) rfl 20 (by decide) rfl (hts (.fieldLink RX7 56 "QuayMeshModel" "box" "[I") (List.mem_of_getElem? (i := 1) rfl)) (fun _ h9 => h9) (v := .ref q49) (qs_rf eq49) dX7_puts_1 ?_
  refine lv_iload_n hx hb dX7_puts_4 rfl (lv_at hl 1 rfl) ?_
  obtain ⟨⟨hL50, fK51⟩, h⟩ := h
  obtain ⟨hi52, h⟩ := h
  refine qr_iald hx hb hG hL50 fK51 hi52 rfl dX7_puts_5 ?_
  refine lv_topi (fun v53 ev53 => ?_)
  have h := h v53 ev53
  refine lv_istore_n (lv' := [(2, .int v53), (0, .ref a0z), (1, .int x1z)]) hx hb dX7_puts_6 rfl hl (by decide) rfl (fun ls hl => ?_)
  refine lv_aload_n hx hb dX7_puts_7 rfl (lv_at hl 1 rfl) ?_
  obtain ⟨q54, eq54, h⟩ := h
  refine qr_get (C := RX7) (T := TX7) (N := 35) (ci := 7) hx hb hts in7 hown hG hL47 fK48 (by decide) rfl 19 (by decide) rfl (hts (.fieldLink RX7 53 "QuayMeshModel" "kind" "[I") (List.mem_of_getElem? (i := 2) rfl)) (fun _ h9 => h9) (v := .ref q54) (qs_rf eq54) dX7_puts_8 ?_
  refine lv_iload_n hx hb dX7_puts_11 rfl (lv_at hl 2 rfl) ?_
  obtain ⟨⟨hL55, fK56⟩, h⟩ := h
  obtain ⟨hi57, h⟩ := h
  refine qr_iald hx hb hG hL55 fK56 hi57 rfl dX7_puts_12 ?_
  refine lv_topi (fun v58 ev58 => ?_)
  have h := h v58 ev58
  refine lv_iconst (v := (1 : Int32)) hx hb dX7_puts_13 (by decide +kernel) ?_
  refine lv_icmp_ne (tgt := 90) hx hb dX7_puts_14 (by decide) (fun c59 => ?_) (fun c59 => ?_)
  · have h := h.1 c59
    exact b90 SA a0z x1z v53 _ _ ls h hG (lv_sub hl [1, 2, 0] rfl)
  · have h := h.2 c59
    refine lv_aload_n hx hb dX7_puts_17 rfl (lv_at hl 1 rfl) ?_
    obtain ⟨q60, eq60, h⟩ := h
    refine qr_get (C := RX7) (T := TX7) (N := 35) (ci := 7) hx hb hts in7 hown hG hL47 fK48 (by decide) rfl 14 (by decide) rfl (hts (.fieldLink RX7 41 "QuayMeshModel" "height" "[I") (List.mem_of_getElem? (i := 3) rfl)) (fun _ h9 => h9) (v := .ref q60) (qs_rf eq60) dX7_puts_18 ?_
    refine lv_aload_n hx hb dX7_puts_21 rfl (lv_at hl 1 rfl) ?_
    obtain ⟨q61, eq61, h⟩ := h
    refine qr_get (C := RX7) (T := TX7) (N := 35) (ci := 7) hx hb hts in7 hown hG hL47 fK48 (by decide) rfl 21 (by decide) rfl (hts (.fieldLink RX7 59 "QuayMeshModel" "target" "[I") (List.mem_of_getElem? (i := 4) rfl)) (fun _ h9 => h9) (v := .ref q61) (qs_rf eq61) dX7_puts_22 ?_
    refine lv_iload_n hx hb dX7_puts_25 rfl (lv_at hl 2 rfl) ?_
    obtain ⟨⟨hL62, fK63⟩, h⟩ := h
    obtain ⟨hi64, h⟩ := h
    refine qr_iald hx hb hG hL62 fK63 hi64 rfl dX7_puts_26 ?_
    refine lv_topi (fun v65 ev65 => ?_)
    have h := h v65 ev65
    obtain ⟨⟨hL66, fK67⟩, h⟩ := h
    obtain ⟨hi68, h⟩ := h
    refine qr_iald hx hb hG hL66 fK67 hi68 rfl dX7_puts_27 ?_
    refine lv_topi (fun v69 ev69 => ?_)
    have h := h v69 ev69
    refine lv_iconst (v := (4 : Int32)) hx hb dX7_puts_28 (by decide +kernel) ?_
    refine lv_icmp_ge (tgt := 90) hx hb dX7_puts_29 (by decide) (fun c70 => ?_) (fun c70 => ?_)
    · have h := h.1 c70
      exact b90 SA a0z x1z v53 _ _ ls h hG (lv_sub hl [1, 2, 0] rfl)
    · have h := h.2 c70
      refine lv_aload_n hx hb dX7_puts_32 rfl (lv_at hl 1 rfl) ?_
      obtain ⟨q71, eq71, h⟩ := h
      refine qr_get (C := RX7) (T := TX7) (N := 35) (ci := 7) hx hb hts in7 hown hG hL47 fK48 (by decide) rfl 9 (by decide) rfl (hts (.fieldLink RX7 26 "QuayMeshModel" "where" "[I") (List.mem_of_getElem? (i := 5) rfl)) (fun _ h9 => h9) (v := .ref q71) (qs_rf eq71) dX7_puts_33 ?_
      refine lv_iload_n hx hb dX7_puts_36 rfl (lv_at hl 0 rfl) ?_
      refine lv_iconst (v := (3 : Int32)) hx hb dX7_puts_37 (by decide +kernel) ?_
      obtain ⟨⟨hL72, fK73⟩, h⟩ := h
      obtain ⟨hi74, h⟩ := h
      refine qr_iast hx hb hG hL72 fK73 hi74 dX7_puts_38 (fun H locs hG => ?_)
      refine lv_aload_n hx hb dX7_puts_39 rfl (lv_at hl 1 rfl) ?_
      obtain ⟨q75, eq75, h⟩ := h
      refine qr_get (C := RX7) (T := TX7) (N := 35) (ci := 7) hx hb hts in7 hown hG hL47 fK48 (by decide) rfl 10 (by decide) rfl (hts (.fieldLink RX7 29 "QuayMeshModel" "at" "[I") (List.mem_of_getElem? (i := 6) rfl)) (fun _ h9 => h9) (v := .ref q75) (qs_rf eq75) dX7_puts_40 ?_
      refine lv_iload_n hx hb dX7_puts_43 rfl (lv_at hl 0 rfl) ?_
      refine lv_aload_n hx hb dX7_puts_44 rfl (lv_at hl 1 rfl) ?_
      obtain ⟨q76, eq76, h⟩ := h
      refine qr_get (C := RX7) (T := TX7) (N := 35) (ci := 7) hx hb hts in7 hown hG hL47 fK48 (by decide) rfl 21 (by decide) rfl (hts (.fieldLink RX7 59 "QuayMeshModel" "target" "[I") (List.mem_of_getElem? (i := 4) rfl)) (fun _ h9 => h9) (v := .ref q76) (qs_rf eq76) dX7_puts_45 ?_
      refine lv_iload_n hx hb dX7_puts_48 rfl (lv_at hl 2 rfl) ?_
      obtain ⟨⟨hL77, fK78⟩, h⟩ := h
      obtain ⟨hi79, h⟩ := h
      refine qr_iald hx hb hG hL77 fK78 hi79 rfl dX7_puts_49 ?_
      refine lv_topi (fun v80 ev80 => ?_)
      have h := h v80 ev80
      obtain ⟨⟨hL81, fK82⟩, h⟩ := h
      obtain ⟨hi83, h⟩ := h
      refine qr_iast hx hb hG hL81 fK82 hi83 dX7_puts_50 (fun H locs hG => ?_)
      refine lv_aload_n hx hb dX7_puts_51 rfl (lv_at hl 1 rfl) ?_
      obtain ⟨q84, eq84, h⟩ := h
      refine qr_get (C := RX7) (T := TX7) (N := 35) (ci := 7) hx hb hts in7 hown hG hL47 fK48 (by decide) rfl 15 (by decide) rfl (hts (.fieldLink RX7 44 "QuayMeshModel" "level" "[I") (List.mem_of_getElem? (i := 7) rfl)) (fun _ h9 => h9) (v := .ref q84) (qs_rf eq84) dX7_puts_52 ?_
      refine lv_iload_n hx hb dX7_puts_55 rfl (lv_at hl 0 rfl) ?_
      refine lv_aload_n hx hb dX7_puts_56 rfl (lv_at hl 1 rfl) ?_
      obtain ⟨q85, eq85, h⟩ := h
      refine qr_get (C := RX7) (T := TX7) (N := 35) (ci := 7) hx hb hts in7 hown hG hL47 fK48 (by decide) rfl 14 (by decide) rfl (hts (.fieldLink RX7 41 "QuayMeshModel" "height" "[I") (List.mem_of_getElem? (i := 3) rfl)) (fun _ h9 => h9) (v := .ref q85) (qs_rf eq85) dX7_puts_57 ?_
      refine lv_aload_n hx hb dX7_puts_60 rfl (lv_at hl 1 rfl) ?_
      obtain ⟨q86, eq86, h⟩ := h
      refine qr_get (C := RX7) (T := TX7) (N := 35) (ci := 7) hx hb hts in7 hown hG hL47 fK48 (by decide) rfl 21 (by decide) rfl (hts (.fieldLink RX7 59 "QuayMeshModel" "target" "[I") (List.mem_of_getElem? (i := 4) rfl)) (fun _ h9 => h9) (v := .ref q86) (qs_rf eq86) dX7_puts_61 ?_
      refine lv_iload_n hx hb dX7_puts_64 rfl (lv_at hl 2 rfl) ?_
      obtain ⟨⟨hL87, fK88⟩, h⟩ := h
      obtain ⟨hi89, h⟩ := h
      refine qr_iald hx hb hG hL87 fK88 hi89 rfl dX7_puts_65 ?_
      refine lv_topi (fun v90 ev90 => ?_)
      have h := h v90 ev90
      obtain ⟨⟨hL91, fK92⟩, h⟩ := h
      obtain ⟨hi93, h⟩ := h
      refine qr_iald hx hb hG hL91 fK92 hi93 rfl dX7_puts_66 ?_
      refine lv_topi (fun v94 ev94 => ?_)
      have h := h v94 ev94
      obtain ⟨⟨hL95, fK96⟩, h⟩ := h
      obtain ⟨hi97, h⟩ := h
      refine qr_iast hx hb hG hL95 fK96 hi97 dX7_puts_67 (fun H locs hG => ?_)
      refine lv_aload_n hx hb dX7_puts_68 rfl (lv_at hl 1 rfl) ?_
      obtain ⟨q98, eq98, h⟩ := h
      refine qr_get (C := RX7) (T := TX7) (N := 35) (ci := 7) hx hb hts in7 hown hG hL47 fK48 (by decide) rfl 14 (by decide) rfl (hts (.fieldLink RX7 41 "QuayMeshModel" "height" "[I") (List.mem_of_getElem? (i := 3) rfl)) (fun _ h9 => h9) (v := .ref q98) (qs_rf eq98) dX7_puts_69 ?_
      refine lv_aload_n hx hb dX7_puts_72 rfl (lv_at hl 1 rfl) ?_
      obtain ⟨q99, eq99, h⟩ := h
      refine qr_get (C := RX7) (T := TX7) (N := 35) (ci := 7) hx hb hts in7 hown hG hL47 fK48 (by decide) rfl 21 (by decide) rfl (hts (.fieldLink RX7 59 "QuayMeshModel" "target" "[I") (List.mem_of_getElem? (i := 4) rfl)) (fun _ h9 => h9) (v := .ref q99) (qs_rf eq99) dX7_puts_73 ?_
      refine lv_iload_n hx hb dX7_puts_76 rfl (lv_at hl 2 rfl) ?_
      obtain ⟨⟨hL100, fK101⟩, h⟩ := h
      obtain ⟨hi102, h⟩ := h
      refine qr_iald hx hb hG hL100 fK101 hi102 rfl dX7_puts_77 ?_
      refine lv_topi (fun v103 ev103 => ?_)
      have h := h v103 ev103
      refine lv_dup2_11 hx hb dX7_puts_78 rfl rfl ?_
      obtain ⟨⟨hL104, fK105⟩, h⟩ := h
      obtain ⟨hi106, h⟩ := h
      refine qr_iald hx hb hG hL104 fK105 hi106 rfl dX7_puts_79 ?_
      refine lv_topi (fun v107 ev107 => ?_)
      have h := h v107 ev107
      refine lv_iconst (v := (1 : Int32)) hx hb dX7_puts_80 (by decide +kernel) ?_
      refine lv_iadd hx hb dX7_puts_81 ?_
      refine lv_topi (fun v108 ev108 => ?_)
      have h := h v108 ev108
      obtain ⟨hi109, h⟩ := h
      refine qr_iast hx hb hG hL104 fK105 hi109 dX7_puts_82 (fun H locs hG => ?_)
      refine lv_aload_n hx hb dX7_puts_83 rfl (lv_at hl 1 rfl) ?_
      refine lv_iload_n hx hb dX7_puts_84 rfl (lv_at hl 2 rfl) ?_
      refine qc_v hG (va_runV (As := [.int x1z]) (rest := []) ⟨hx, hb, hml, hown, hts⟩ (c_X7_makes l g _ (qs_wA (qs_wA (qs_wA (qs_wA SA q71 v53.toNatClampNeg (3 : Int32)) q75 v53.toNatClampNeg v80) q84 v53.toNatClampNeg v94) q98 v103.toNatClampNeg v108) a0z x1z h) (cwV 1 hts gX7_puts_X7_makes rfl rfl rfl (by decide +kernel) ⟨(Nat.le_of_ble_eq_true rfl), (Nat.le_of_ble_eq_true rfl)⟩) ⟨qs_Pc.blind _ _ _ _, hG.recv hL47 fK48 (by decide) rfl, hG.pre _⟩ rfl rfl hl.1 rfl (lv_room (Nat.le_of_ble_eq_true rfl)) dX7_puts_85 ⟨Nat.zero_le _, Nat.zero_le _⟩) (fun S112 H locs h hG => ?_)
      refine lv_iconst (v := (1 : Int32)) hx hb dX7_puts_88 (by decide +kernel) ?_
      exact qe_z hx hb hr hlk (Or.inr rfl) hG h (Nat.le_refl _) (Nat.le_refl _) dX7_puts_89
def wp_X7_act_b36 (t0 m9 : Nat) (post : Int32 → qs_S → Prop) (S : qs_S) : Prop := post (0 : Int32) S
def wp_X7_act_b97 (t0 m9 : Nat) (post : Int32 → qs_S → Prop) (S : qs_S) (a0 : Nat) (x1 : Int32) (x2 : Int32) : Prop := (a0 ∈ qs_L S ∧ qs_K S a0 = 7) ∧ (wp_X7_finishes t0 m9 (fun (v6 : Int32) (S5 : qs_S) => post v6 S5) S a0 x1 x2)
def wp_X7_act_b142 (t0 m9 : Nat) (post : Int32 → qs_S → Prop) (S : qs_S) (s0 : Int32) : Prop := post s0 S
def wp_X7_act_b169 (t0 m9 : Nat) (post : Int32 → qs_S → Prop) (S : qs_S) : Prop := post (3 : Int32) S
def wp_X7_act_b196 (t0 m9 : Nat) (post : Int32 → qs_S → Prop) (S : qs_S) (a0 : Nat) (x1 : Int32) (x3 : Int32) : Prop := (a0 ∈ qs_L S ∧ qs_K S a0 = 7) ∧ (∃ q9 : Nat, qs_R S 9 a0 = some q9 ∧ ((q9 ∈ qs_L S ∧ qs_K S q9 = 8) ∧ (vp_in x3 (qs_Z S q9) ∧ (∃ q13 : Nat, qs_R (qs_wA S q9 x3.toNatClampNeg (2 : Int32)) 10 a0 = some q13 ∧ ((q13 ∈ qs_L (qs_wA S q9 x3.toNatClampNeg (2 : Int32)) ∧ qs_K (qs_wA S q9 x3.toNatClampNeg (2 : Int32)) q13 = 8) ∧ (vp_in x3 (qs_Z (qs_wA S q9 x3.toNatClampNeg (2 : Int32)) q13) ∧ (post (7 : Int32) (qs_wA (qs_wA S q9 x3.toNatClampNeg (2 : Int32)) q13 x3.toNatClampNeg x1))))))))
def wp_X7_act_b171 (t0 m9 : Nat) (post : Int32 → qs_S → Prop) (S : qs_S) (a0 : Nat) (x1 : Int32) (x3 : Int32) : Prop := (a0 ∈ qs_L S ∧ qs_K S a0 = 7) ∧ (∃ q19 : Nat, qs_R S 9 a0 = some q19 ∧ ((q19 ∈ qs_L S ∧ qs_K S q19 = 8) ∧ (vp_in x3 (qs_Z S q19) ∧ (∀ v23 : Int32, v23 = qs_A S q19 x3.toNatClampNeg → (¬ v23 = (3 : Int32) → (wp_X7_act_b196 t0 m9 post S a0 x1 x3)) ∧ (v23 = (3 : Int32) → (∃ q25 : Nat, qs_R S 14 a0 = some q25 ∧ (∃ q26 : Nat, qs_R S 10 a0 = some q26 ∧ ((q26 ∈ qs_L S ∧ qs_K S q26 = 8) ∧ (vp_in x3 (qs_Z S q26) ∧ (∀ v30 : Int32, v30 = qs_A S q26 x3.toNatClampNeg → (q25 ∈ qs_L S ∧ qs_K S q25 = 8) ∧ (vp_in v30 (qs_Z S q25) ∧ (∀ v34 : Int32, v34 = qs_A S q25 v30.toNatClampNeg → ∀ v35 : Int32, v35 = v34 - (1 : Int32) → vp_in v30 (qs_Z S q25) ∧ (wp_X7_act_b196 t0 m9 post (qs_wA S q25 v30.toNatClampNeg v35) a0 x1 x3)))))))))))))
def wp_X7_act_b143 (t0 m9 : Nat) (post : Int32 → qs_S → Prop) (S : qs_S) (a0 : Nat) (x1 : Int32) (x3 : Int32) : Prop := (a0 ∈ qs_L S ∧ qs_K S a0 = 7) ∧ (wp_X7_isEmpty t0 m9 (fun (v42 : Int32) (S41 : qs_S) => (v42 = 0 → (wp_X7_act_b169 t0 m9 post S41)) ∧ (¬ v42 = 0 → ((a0 ∈ qs_L S41 ∧ qs_K S41 a0 = 7) ∧ (∃ q46 : Nat, qs_R S41 9 a0 = some q46 ∧ ((q46 ∈ qs_L S41 ∧ qs_K S41 q46 = 8) ∧ (vp_in x3 (qs_Z S41 q46) ∧ (∀ v50 : Int32, v50 = qs_A S41 q46 x3.toNatClampNeg → (v50 = (1 : Int32) → (wp_X7_act_b171 t0 m9 post S41 a0 x1 x3)) ∧ (¬ v50 = (1 : Int32) → (wp_X7_isUppermost t0 m9 (fun (v55 : Int32) (S54 : qs_S) => (¬ v55 = 0 → (wp_X7_act_b171 t0 m9 post S54 a0 x1 x3)) ∧ (v55 = 0 → (wp_X7_act_b169 t0 m9 post S54))) S41 a0 x3))))))))) S a0 x1)
def wp_X7_act_b104 (t0 m9 : Nat) (post : Int32 → qs_S → Prop) (S : qs_S) (a0 : Nat) (x1 : Int32) (x2 : Int32) (x3 : Int32) : Prop := (a0 ∈ qs_L S ∧ qs_K S a0 = 7) ∧ (∃ q59 : Nat, qs_R S 9 a0 = some q59 ∧ ((q59 ∈ qs_L S ∧ qs_K S q59 = 8) ∧ (vp_in x3 (qs_Z S q59) ∧ (∀ v63 : Int32, v63 = qs_A S q59 x3.toNatClampNeg → (¬ v63 = (2 : Int32) → (wp_X7_act_b143 t0 m9 post S a0 x1 x3)) ∧ (v63 = (2 : Int32) → (∃ q65 : Nat, qs_R S 10 a0 = some q65 ∧ ((q65 ∈ qs_L S ∧ qs_K S q65 = 8) ∧ (vp_in x3 (qs_Z S q65) ∧ (∀ v69 : Int32, v69 = qs_A S q65 x3.toNatClampNeg → (¬ v69 = x1 → (wp_X7_act_b143 t0 m9 post S a0 x1 x3)) ∧ (v69 = x1 → (wp_X7_puts t0 m9 (fun (v74 : Int32) (S73 : qs_S) => (v74 = 0 → (wp_X7_act_b142 t0 m9 post S73 (3 : Int32))) ∧ (¬ v74 = 0 → ((a0 ∈ qs_L S73 ∧ qs_K S73 a0 = 7) ∧ (wp_X7_finishes t0 m9 (fun (v81 : Int32) (S80 : qs_S) => wp_X7_act_b142 t0 m9 post S80 v81) S73 a0 x1 x2)))) S a0 x2)))))))))))
def wp_X7_act_b16 (t0 m9 : Nat) (post : Int32 → qs_S → Prop) (S : qs_S) (a0 : Nat) (x1 : Int32) (r0 : Nat) (s1 : Int32) : Prop := (r0 ∈ qs_L S ∧ qs_K S r0 = 7) ∧ ((a0 ∈ qs_L (qs_wI S 0 r0 s1) ∧ qs_K (qs_wI S 0 r0 s1) a0 = 7) ∧ (∀ v86 : Int32, v86 = qs_I (qs_wI S 0 r0 s1) 0 a0 → (0 < v86 → (wp_X7_act_b36 t0 m9 post (qs_wI S 0 r0 s1))) ∧ (¬ 0 < v86 → (∃ q88 : Nat, qs_R (qs_wI S 0 r0 s1) 34 a0 = some q88 ∧ ((q88 ∈ qs_L (qs_wI S 0 r0 s1) ∧ qs_K (qs_wI S 0 r0 s1) q88 = 8) ∧ (vp_in x1 (qs_Z (qs_wI S 0 r0 s1) q88) ∧ (∀ v92 : Int32, v92 = qs_A (qs_wI S 0 r0 s1) q88 x1.toNatClampNeg → (¬ v92 = (-1 : Int32) → (∃ q94 : Nat, qs_R (qs_wI S 0 r0 s1) 34 a0 = some q94 ∧ ((q94 ∈ qs_L (qs_wI S 0 r0 s1) ∧ qs_K (qs_wI S 0 r0 s1) q94 = 8) ∧ (vp_in x1 (qs_Z (qs_wI S 0 r0 s1) q94) ∧ (∀ v98 : Int32, v98 = qs_A (qs_wI S 0 r0 s1) q94 x1.toNatClampNeg → ∃ q99 : Nat, qs_R (qs_wI S 0 r0 s1) 20 a0 = some q99 ∧ ((q99 ∈ qs_L (qs_wI S 0 r0 s1) ∧ qs_K (qs_wI S 0 r0 s1) q99 = 8) ∧ (vp_in v98 (qs_Z (qs_wI S 0 r0 s1) q99) ∧ (∀ v103 : Int32, v103 = qs_A (qs_wI S 0 r0 s1) q99 v98.toNatClampNeg → ∃ q104 : Nat, qs_R (qs_wI S 0 r0 s1) 9 a0 = some q104 ∧ ((q104 ∈ qs_L (qs_wI S 0 r0 s1) ∧ qs_K (qs_wI S 0 r0 s1) q104 = 8) ∧ (vp_in v103 (qs_Z (qs_wI S 0 r0 s1) q104) ∧ (∀ v108 : Int32, v108 = qs_A (qs_wI S 0 r0 s1) q104 v103.toNatClampNeg → (v108 = (4 : Int32) → (wp_X7_act_b97 t0 m9 post (qs_wI S 0 r0 s1) a0 x1 v98)) ∧ (¬ v108 = (4 : Int32) → (∃ q110 : Nat, qs_R (qs_wI S 0 r0 s1) 19 a0 = some q110 ∧ ((q110 ∈ qs_L (qs_wI S 0 r0 s1) ∧ qs_K (qs_wI S 0 r0 s1) q110 = 8) ∧ (vp_in v98 (qs_Z (qs_wI S 0 r0 s1) q110) ∧ (∀ v114 : Int32, v114 = qs_A (qs_wI S 0 r0 s1) q110 v98.toNatClampNeg → (¬ v114 = (1 : Int32) → (wp_X7_act_b104 t0 m9 post (qs_wI S 0 r0 s1) a0 x1 v98 v103)) ∧ (v114 = (1 : Int32) → (∃ q116 : Nat, qs_R (qs_wI S 0 r0 s1) 9 a0 = some q116 ∧ ((q116 ∈ qs_L (qs_wI S 0 r0 s1) ∧ qs_K (qs_wI S 0 r0 s1) q116 = 8) ∧ (vp_in v103 (qs_Z (qs_wI S 0 r0 s1) q116) ∧ (∀ v120 : Int32, v120 = qs_A (qs_wI S 0 r0 s1) q116 v103.toNatClampNeg → (¬ v120 = (3 : Int32) → (wp_X7_act_b104 t0 m9 post (qs_wI S 0 r0 s1) a0 x1 v98 v103)) ∧ (v120 = (3 : Int32) → (∃ q122 : Nat, qs_R (qs_wI S 0 r0 s1) 10 a0 = some q122 ∧ ((q122 ∈ qs_L (qs_wI S 0 r0 s1) ∧ qs_K (qs_wI S 0 r0 s1) q122 = 8) ∧ (vp_in v103 (qs_Z (qs_wI S 0 r0 s1) q122) ∧ (∀ v126 : Int32, v126 = qs_A (qs_wI S 0 r0 s1) q122 v103.toNatClampNeg → ∃ q127 : Nat, qs_R (qs_wI S 0 r0 s1) 21 a0 = some q127 ∧ ((q127 ∈ qs_L (qs_wI S 0 r0 s1) ∧ qs_K (qs_wI S 0 r0 s1) q127 = 8) ∧ (vp_in v98 (qs_Z (qs_wI S 0 r0 s1) q127) ∧ (∀ v131 : Int32, v131 = qs_A (qs_wI S 0 r0 s1) q127 v98.toNatClampNeg → (¬ v126 = v131 → (wp_X7_act_b104 t0 m9 post (qs_wI S 0 r0 s1) a0 x1 v98 v103)) ∧ (v126 = v131 → (wp_X7_act_b97 t0 m9 post (qs_wI S 0 r0 s1) a0 x1 v98))))))))))))))))))))))))))))))) ∧ (v92 = (-1 : Int32) → (wp_X7_act_b36 t0 m9 post (qs_wI S 0 r0 s1))))))))))
def wp_X7_act (t0 m9 : Nat) (post : Int32 → qs_S → Prop) (SA : qs_S) (a0z : Nat) (x1z : Int32) : Prop := wp_X7_in t0 m9 (fun (v136 : Int32) (S135 : qs_S) => (v136 = 0 → (wp_X7_act_b16 t0 m9 post S135 a0z x1z a0z (1 : Int32))) ∧ (¬ v136 = 0 → (wp_X7_act_b16 t0 m9 post S135 a0z x1z a0z (0 : Int32)))) SA x1z (4 : Int32) (7 : Int32)
set_option maxHeartbeats 4000000 in
set_option maxRecDepth 100000 in
theorem c_X7_act (l : Launch) (g : qs_G) (sz : Nat) (SA : qs_S) (a0z : Nat) (x1z : Int32) {post : Int32 → qs_S → Prop} (h : wp_X7_act g.2.2.2.2.2.2.1 g.2.2.2.2.2.2.2 post SA a0z x1z) : Met l yX7_act wsX7_act ({ frames := 3, cells := 0, slots := 0, locals := 69 } : Room) (qs_Pc g sz SA [.ref a0z, .int x1z]) (qs_Qi g (qs_F g SA sz) post) 0 0 (qs_F g SA sz) := by
  refine Met.ofW (cc := cX7_act) (maxL := 4) (ret := (some .int)) (by decide +kernel) rfl ?_
  intro p e s m args below meth c s₁ B hml hv
  obtain ⟨rfl, hsz, hG⟩ := qs_Gd.start hv
  subst hsz
  have hx := B.exec
  have hb := B.bytes
  have hr := B.returns
  have hts := atoms_spec (ws := wsX7_act) B.pre
  have hown : s.vm.findClass RX7 = some m.cls := findClass_of_methodNamed B.named
  have hlk := B.notSynchronized
  have in7 : ∀ w ∈ u_ws RX7 TX7 35, w ∈ wsX7_act := fun w h => List.mem_cons_of_mem _ (List.mem_append_right _ (h))
  have b36 : ∀ (S : qs_S) (H : Heap) (locs : List Loc) (ls : Array Slot), wp_X7_act_b36 g.2.2.2.2.2.2.1 g.2.2.2.2.2.2.2 post S → qs_Gd g (qs_F g SA s.heap.size) s S H locs → lv_has ls 4 [] → W p l e (headSpec wsX7_act ({ frames := 3, cells := 0, slots := 0, locals := 69 } : Room)).room s m (([.ref a0z, .int x1z] : List Value)).toArray below meth c H locs 0 0 (MQ below (qs_Qi g (qs_F g SA s.heap.size) post) (([.ref a0z, .int x1z] : List Value)).toArray s 0 0 (qs_F g SA s.heap.size)) (F0 m 36 ls []) := by
    intro S H locs ls h hG hl
    unfold wp_X7_act_b36 at h
    refine lv_iconst (v := (0 : Int32)) hx hb dX7_act_36 (by decide +kernel) ?_
    exact qe_i hx hb hr hlk hG h (Nat.le_refl _) (Nat.le_refl _) dX7_act_37
  have b97 : ∀ (S : qs_S) (a0 : Nat) (x1 : Int32) (x2 : Int32) (H : Heap) (locs : List Loc) (ls : Array Slot), wp_X7_act_b97 g.2.2.2.2.2.2.1 g.2.2.2.2.2.2.2 post S a0 x1 x2 → qs_Gd g (qs_F g SA s.heap.size) s S H locs → lv_has ls 4 [(0, .ref a0), (1, .int x1), (2, .int x2)] → W p l e (headSpec wsX7_act ({ frames := 3, cells := 0, slots := 0, locals := 69 } : Room)).room s m (([.ref a0z, .int x1z] : List Value)).toArray below meth c H locs 0 0 (MQ below (qs_Qi g (qs_F g SA s.heap.size) post) (([.ref a0z, .int x1z] : List Value)).toArray s 0 0 (qs_F g SA s.heap.size)) (F0 m 97 ls []) := by
    intro S a0 x1 x2 H locs ls h hG hl
    unfold wp_X7_act_b97 at h
    refine lv_aload_n hx hb dX7_act_97 rfl (lv_at hl 0 rfl) ?_
    refine lv_iload_n hx hb dX7_act_98 rfl (lv_at hl 1 rfl) ?_
    refine lv_iload_n hx hb dX7_act_99 rfl (lv_at hl 2 rfl) ?_
    obtain ⟨⟨hL3, fK4⟩, h⟩ := h
    refine qc_i hG (va_runV (As := [.int x1, .int x2]) (rest := []) ⟨hx, hb, hml, hown, hts⟩ (c_X7_finishes l g _ S a0 x1 x2 h) (cwV 2 hts gX7_act_X7_finishes rfl rfl rfl (by decide +kernel) ⟨(Nat.le_of_ble_eq_true rfl), (Nat.le_of_ble_eq_true rfl)⟩) ⟨qs_Pc.blind _ _ _ _, hG.recv hL3 fK4 (by decide) rfl, hG.pre _⟩ rfl rfl hl.1 rfl (lv_room (Nat.le_of_ble_eq_true rfl)) dX7_act_100 ⟨Nat.zero_le _, Nat.zero_le _⟩) (fun v6 S5 H locs h hG => ?_)
    exact qe_i hx hb hr hlk hG h (Nat.le_refl _) (Nat.le_refl _) dX7_act_103
  have b142 : ∀ (S : qs_S) (s0 : Int32) (H : Heap) (locs : List Loc) (ls : Array Slot), wp_X7_act_b142 g.2.2.2.2.2.2.1 g.2.2.2.2.2.2.2 post S s0 → qs_Gd g (qs_F g SA s.heap.size) s S H locs → lv_has ls 4 [] → W p l e (headSpec wsX7_act ({ frames := 3, cells := 0, slots := 0, locals := 69 } : Room)).room s m (([.ref a0z, .int x1z] : List Value)).toArray below meth c H locs 0 0 (MQ below (qs_Qi g (qs_F g SA s.heap.size) post) (([.ref a0z, .int x1z] : List Value)).toArray s 0 0 (qs_F g SA s.heap.size)) (F0 m 142 ls [.int s0]) := by
    intro S s0 H locs ls h hG hl
    unfold wp_X7_act_b142 at h
    exact qe_i hx hb hr hlk hG h (Nat.le_refl _) (Nat.le_refl _) dX7_act_142
  have b169 : ∀ (S : qs_S) (H : Heap) (locs : List Loc) (ls : Array Slot), wp_X7_act_b169 g.2.2.2.2.2.2.1 g.2.2.2.2.2.2.2 post S → qs_Gd g (qs_F g SA s.heap.size) s S H locs → lv_has ls 4 [] → W p l e (headSpec wsX7_act ({ frames := 3, cells := 0, slots := 0, locals := 69 } : Room)).room s m (([.ref a0z, .int x1z] : List Value)).toArray below meth c H locs 0 0 (MQ below (qs_Qi g (qs_F g SA s.heap.size) post) (([.ref a0z, .int x1z] : List Value)).toArray s 0 0 (qs_F g SA s.heap.size)) (F0 m 169 ls []) := by
    intro S H locs ls h hG hl
    unfold wp_X7_act_b169 at h
    refine lv_iconst (v := (3 : Int32)) hx hb dX7_act_169 (by decide +kernel) ?_
    exact qe_i hx hb hr hlk hG h (Nat.le_refl _) (Nat.le_refl _) dX7_act_170
  have b196 : ∀ (S : qs_S) (a0 : Nat) (x1 : Int32) (x3 : Int32) (H : Heap) (locs : List Loc) (ls : Array Slot), wp_X7_act_b196 g.2.2.2.2.2.2.1 g.2.2.2.2.2.2.2 post S a0 x1 x3 → qs_Gd g (qs_F g SA s.heap.size) s S H locs → lv_has ls 4 [(0, .ref a0), (1, .int x1), (3, .int x3)] → W p l e (headSpec wsX7_act ({ frames := 3, cells := 0, slots := 0, locals := 69 } : Room)).room s m (([.ref a0z, .int x1z] : List Value)).toArray below meth c H locs 0 0 (MQ below (qs_Qi g (qs_F g SA s.heap.size) post) (([.ref a0z, .int x1z] : List Value)).toArray s 0 0 (qs_F g SA s.heap.size)) (F0 m 196 ls []) := by
    intro S a0 x1 x3 H locs ls h hG hl
    unfold wp_X7_act_b196 at h
    refine lv_aload_n hx hb dX7_act_196 rfl (lv_at hl 0 rfl) ?_
    obtain ⟨⟨hL7, fK8⟩, h⟩ := h
    obtain ⟨q9, eq9, h⟩ := h
    refine qr_get (C := RX7) (T := TX7) (N := 35) (ci := 7) hx hb hts in7 hown hG hL7 fK8 (by decide) rfl 9 (by decide) rfl (hts (.fieldLink RX7 26 "QuayMeshModel" "where" "[I") (List.mem_of_getElem? (i := 4) rfl)) (fun _ h9 => h9) (v := .ref q9) (qs_rf eq9) dX7_act_197 ?_
    refine lv_iload_n hx hb dX7_act_200 rfl (lv_at hl 2 rfl) ?_
    refine lv_iconst (v := (2 : Int32)) hx hb dX7_act_201 (by decide +kernel) ?_
    obtain ⟨⟨hL10, fK11⟩, h⟩ := h
    obtain ⟨hi12, h⟩ := h
    refine qr_iast hx hb hG hL10 fK11 hi12 dX7_act_202 (fun H locs hG => ?_)
    refine lv_aload_n hx hb dX7_act_203 rfl (lv_at hl 0 rfl) ?_
    obtain ⟨q13, eq13, h⟩ := h
    refine qr_get (C := RX7) (T := TX7) (N := 35) (ci := 7) hx hb hts in7 hown hG hL7 fK8 (by decide) rfl 10 (by decide) rfl (hts (.fieldLink RX7 29 "QuayMeshModel" "at" "[I") (List.mem_of_getElem? (i := 6) rfl)) (fun _ h9 => h9) (v := .ref q13) (qs_rf eq13) dX7_act_204 ?_
    refine lv_iload_n hx hb dX7_act_207 rfl (lv_at hl 2 rfl) ?_
    refine lv_iload_n hx hb dX7_act_208 rfl (lv_at hl 1 rfl) ?_
    obtain ⟨⟨hL14, fK15⟩, h⟩ := h
    obtain ⟨hi16, h⟩ := h
    refine qr_iast hx hb hG hL14 fK15 hi16 dX7_act_209 (fun H locs hG => ?_)
    refine lv_bipush (v := (7 : Int32)) hx hb dX7_act_210 (by decide +kernel) ?_
    exact qe_i hx hb hr hlk hG h (Nat.le_refl _) (Nat.le_refl _) dX7_act_212
  have b171 : ∀ (S : qs_S) (a0 : Nat) (x1 : Int32) (x3 : Int32) (H : Heap) (locs : List Loc) (ls : Array Slot), wp_X7_act_b171 g.2.2.2.2.2.2.1 g.2.2.2.2.2.2.2 post S a0 x1 x3 → qs_Gd g (qs_F g SA s.heap.size) s S H locs → lv_has ls 4 [(0, .ref a0), (1, .int x1), (3, .int x3)] → W p l e (headSpec wsX7_act ({ frames := 3, cells := 0, slots := 0, locals := 69 } : Room)).room s m (([.ref a0z, .int x1z] : List Value)).toArray below meth c H locs 0 0 (MQ below (qs_Qi g (qs_F g SA s.heap.size) post) (([.ref a0z, .int x1z] : List Value)).toArray s 0 0 (qs_F g SA s.heap.size)) (F0 m 171 ls []) := by
    intro S a0 x1 x3 H locs ls h hG hl
    unfold wp_X7_act_b171 at h
    refine lv_aload_n hx hb dX7_act_171 rfl (lv_at hl 0 rfl) ?_
    obtain ⟨⟨hL17, fK18⟩, h⟩ := h
    obtain ⟨q19, eq19, h⟩ := h
    refine qr_get (C := RX7) (T := TX7) (N := 35) (ci := 7) hx hb hts in7 hown hG hL17 fK18 (by decide) rfl 9 (by decide) rfl (hts (.fieldLink RX7 26 "QuayMeshModel" "where" "[I") (List.mem_of_getElem? (i := 4) rfl)) (fun _ h9 => h9) (v := .ref q19) (qs_rf eq19) dX7_act_172 ?_
    refine lv_iload_n hx hb dX7_act_175 rfl (lv_at hl 2 rfl) ?_
    obtain ⟨⟨hL20, fK21⟩, h⟩ := h
    obtain ⟨hi22, h⟩ := h
    refine qr_iald hx hb hG hL20 fK21 hi22 rfl dX7_act_176 ?_
    refine lv_topi (fun v23 ev23 => ?_)
    have h := h v23 ev23
    refine lv_iconst (v := (3 : Int32)) hx hb dX7_act_177 (by decide +kernel) ?_
    refine lv_icmp_ne (tgt := 196) hx hb dX7_act_178 (by decide) (fun c24 => ?_) (fun c24 => ?_)
    · have h := h.1 c24
      exact b196 S a0 x1 x3 _ _ ls h hG (lv_sub hl [0, 1, 2] rfl)
    · have h := h.2 c24
      refine lv_aload_n hx hb dX7_act_181 rfl (lv_at hl 0 rfl) ?_
      obtain ⟨q25, eq25, h⟩ := h
      refine qr_get (C := RX7) (T := TX7) (N := 35) (ci := 7) hx hb hts in7 hown hG hL17 fK18 (by decide) rfl 14 (by decide) rfl (hts (.fieldLink RX7 41 "QuayMeshModel" "height" "[I") (List.mem_of_getElem? (i := 8) rfl)) (fun _ h9 => h9) (v := .ref q25) (qs_rf eq25) dX7_act_182 ?_
      refine lv_aload_n hx hb dX7_act_185 rfl (lv_at hl 0 rfl) ?_
      obtain ⟨q26, eq26, h⟩ := h
      refine qr_get (C := RX7) (T := TX7) (N := 35) (ci := 7) hx hb hts in7 hown hG hL17 fK18 (by decide) rfl 10 (by decide) rfl (hts (.fieldLink RX7 29 "QuayMeshModel" "at" "[I") (List.mem_of_getElem? (i := 6) rfl)) (fun _ h9 => h9) (v := .ref q26) (qs_rf eq26) dX7_act_186 ?_
      refine lv_iload_n hx hb dX7_act_189 rfl (lv_at hl 2 rfl) ?_
      obtain ⟨⟨hL27, fK28⟩, h⟩ := h
      obtain ⟨hi29, h⟩ := h
      refine qr_iald hx hb hG hL27 fK28 hi29 rfl dX7_act_190 ?_
      refine lv_topi (fun v30 ev30 => ?_)
      have h := h v30 ev30
      refine lv_dup2_11 hx hb dX7_act_191 rfl rfl ?_
      obtain ⟨⟨hL31, fK32⟩, h⟩ := h
      obtain ⟨hi33, h⟩ := h
      refine qr_iald hx hb hG hL31 fK32 hi33 rfl dX7_act_192 ?_
      refine lv_topi (fun v34 ev34 => ?_)
      have h := h v34 ev34
      refine lv_iconst (v := (1 : Int32)) hx hb dX7_act_193 (by decide +kernel) ?_
      refine lv_isub hx hb dX7_act_194 ?_
      refine lv_topi (fun v35 ev35 => ?_)
      have h := h v35 ev35
      obtain ⟨hi36, h⟩ := h
      refine qr_iast hx hb hG hL31 fK32 hi36 dX7_act_195 (fun H locs hG => ?_)
      exact b196 (qs_wA S q25 v30.toNatClampNeg v35) a0 x1 x3 _ _ ls h hG (lv_sub hl [0, 1, 2] rfl)
  have b143 : ∀ (S : qs_S) (a0 : Nat) (x1 : Int32) (x3 : Int32) (H : Heap) (locs : List Loc) (ls : Array Slot), wp_X7_act_b143 g.2.2.2.2.2.2.1 g.2.2.2.2.2.2.2 post S a0 x1 x3 → qs_Gd g (qs_F g SA s.heap.size) s S H locs → lv_has ls 4 [(0, .ref a0), (1, .int x1), (3, .int x3)] → W p l e (headSpec wsX7_act ({ frames := 3, cells := 0, slots := 0, locals := 69 } : Room)).room s m (([.ref a0z, .int x1z] : List Value)).toArray below meth c H locs 0 0 (MQ below (qs_Qi g (qs_F g SA s.heap.size) post) (([.ref a0z, .int x1z] : List Value)).toArray s 0 0 (qs_F g SA s.heap.size)) (F0 m 143 ls []) := by
    intro S a0 x1 x3 H locs ls h hG hl
    unfold wp_X7_act_b143 at h
    refine lv_aload_n hx hb dX7_act_143 rfl (lv_at hl 0 rfl) ?_
    refine lv_iload_n hx hb dX7_act_144 rfl (lv_at hl 1 rfl) ?_
    obtain ⟨⟨hL39, fK40⟩, h⟩ := h
    refine qc_i hG (va_runV (As := [.int x1]) (rest := []) ⟨hx, hb, hml, hown, hts⟩ (c_X7_isEmpty l g _ S a0 x1 h) (cwV 1 hts gX7_act_X7_isEmpty rfl rfl rfl (by decide +kernel) ⟨(Nat.le_of_ble_eq_true rfl), (Nat.le_of_ble_eq_true rfl)⟩) ⟨qs_Pc.blind _ _ _ _, hG.recv hL39 fK40 (by decide) rfl, hG.pre _⟩ rfl rfl hl.1 rfl (lv_room (Nat.le_of_ble_eq_true rfl)) dX7_act_145 ⟨Nat.zero_le _, Nat.zero_le _⟩) (fun v42 S41 H locs h hG => ?_)
    refine lv_if_eq (tgt := 169) hx hb dX7_act_148 (by decide) (fun c43 => ?_) (fun c43 => ?_)
    · have h := h.1 c43
      exact b169 S41 _ _ ls h hG (lv_sub hl [] rfl)
    · have h := h.2 c43
      refine lv_aload_n hx hb dX7_act_151 rfl (lv_at hl 0 rfl) ?_
      obtain ⟨⟨hL44, fK45⟩, h⟩ := h
      obtain ⟨q46, eq46, h⟩ := h
      refine qr_get (C := RX7) (T := TX7) (N := 35) (ci := 7) hx hb hts in7 hown hG hL44 fK45 (by decide) rfl 9 (by decide) rfl (hts (.fieldLink RX7 26 "QuayMeshModel" "where" "[I") (List.mem_of_getElem? (i := 4) rfl)) (fun _ h9 => h9) (v := .ref q46) (qs_rf eq46) dX7_act_152 ?_
      refine lv_iload_n hx hb dX7_act_155 rfl (lv_at hl 2 rfl) ?_
      obtain ⟨⟨hL47, fK48⟩, h⟩ := h
      obtain ⟨hi49, h⟩ := h
      refine qr_iald hx hb hG hL47 fK48 hi49 rfl dX7_act_156 ?_
      refine lv_topi (fun v50 ev50 => ?_)
      have h := h v50 ev50
      refine lv_iconst (v := (1 : Int32)) hx hb dX7_act_157 (by decide +kernel) ?_
      refine lv_icmp_eq (tgt := 171) hx hb dX7_act_158 (by decide) (fun c51 => ?_) (fun c51 => ?_)
      · have h := h.1 c51
        exact b171 S41 a0 x1 x3 _ _ ls h hG (lv_sub hl [0, 1, 2] rfl)
      · have h := h.2 c51
        refine lv_aload_n hx hb dX7_act_161 rfl (lv_at hl 0 rfl) ?_
        refine lv_iload_n hx hb dX7_act_162 rfl (lv_at hl 2 rfl) ?_
        refine qc_i hG (va_runV (As := [.int x3]) (rest := []) ⟨hx, hb, hml, hown, hts⟩ (c_X7_isUppermost l g _ S41 a0 x3 h) (cwV 1 hts gX7_act_X7_isUppermost rfl rfl rfl (by decide +kernel) ⟨(Nat.le_of_ble_eq_true rfl), (Nat.le_of_ble_eq_true rfl)⟩) ⟨qs_Pc.blind _ _ _ _, hG.recv hL44 fK45 (by decide) rfl, hG.pre _⟩ rfl rfl hl.1 rfl (lv_room (Nat.le_of_ble_eq_true rfl)) dX7_act_163 ⟨Nat.zero_le _, Nat.zero_le _⟩) (fun v55 S54 H locs h hG => ?_)
        refine lv_if_ne (tgt := 171) hx hb dX7_act_166 (by decide) (fun c56 => ?_) (fun c56 => ?_)
        · have h := h.1 c56
          exact b171 S54 a0 x1 x3 _ _ ls h hG (lv_sub hl [0, 1, 2] rfl)
        · have h := h.2 c56
          exact b169 S54 _ _ ls h hG (lv_sub hl [] rfl)
  have b104 : ∀ (S : qs_S) (a0 : Nat) (x1 : Int32) (x2 : Int32) (x3 : Int32) (H : Heap) (locs : List Loc) (ls : Array Slot), wp_X7_act_b104 g.2.2.2.2.2.2.1 g.2.2.2.2.2.2.2 post S a0 x1 x2 x3 → qs_Gd g (qs_F g SA s.heap.size) s S H locs → lv_has ls 4 [(0, .ref a0), (1, .int x1), (2, .int x2), (3, .int x3)] → W p l e (headSpec wsX7_act ({ frames := 3, cells := 0, slots := 0, locals := 69 } : Room)).room s m (([.ref a0z, .int x1z] : List Value)).toArray below meth c H locs 0 0 (MQ below (qs_Qi g (qs_F g SA s.heap.size) post) (([.ref a0z, .int x1z] : List Value)).toArray s 0 0 (qs_F g SA s.heap.size)) (F0 m 104 ls []) := by
    intro S a0 x1 x2 x3 H locs ls h hG hl
    unfold wp_X7_act_b104 at h
    refine lv_aload_n hx hb dX7_act_104 rfl (lv_at hl 0 rfl) ?_
    obtain ⟨⟨hL57, fK58⟩, h⟩ := h
    obtain ⟨q59, eq59, h⟩ := h
    refine qr_get (C := RX7) (T := TX7) (N := 35) (ci := 7) hx hb hts in7 hown hG hL57 fK58 (by decide) rfl 9 (by decide) rfl (hts (.fieldLink RX7 26 "QuayMeshModel" "where" "[I") (List.mem_of_getElem? (i := 4) rfl)) (fun _ h9 => h9) (v := .ref q59) (qs_rf eq59) dX7_act_105 ?_
    refine lv_iload_n hx hb dX7_act_108 rfl (lv_at hl 3 rfl) ?_
    obtain ⟨⟨hL60, fK61⟩, h⟩ := h
    obtain ⟨hi62, h⟩ := h
    refine qr_iald hx hb hG hL60 fK61 hi62 rfl dX7_act_109 ?_
    refine lv_topi (fun v63 ev63 => ?_)
    have h := h v63 ev63
    refine lv_iconst (v := (2 : Int32)) hx hb dX7_act_110 (by decide +kernel) ?_
    refine lv_icmp_ne (tgt := 143) hx hb dX7_act_111 (by decide) (fun c64 => ?_) (fun c64 => ?_)
    · have h := h.1 c64
      exact b143 S a0 x1 x3 _ _ ls h hG (lv_sub hl [0, 1, 3] rfl)
    · have h := h.2 c64
      refine lv_aload_n hx hb dX7_act_114 rfl (lv_at hl 0 rfl) ?_
      obtain ⟨q65, eq65, h⟩ := h
      refine qr_get (C := RX7) (T := TX7) (N := 35) (ci := 7) hx hb hts in7 hown hG hL57 fK58 (by decide) rfl 10 (by decide) rfl (hts (.fieldLink RX7 29 "QuayMeshModel" "at" "[I") (List.mem_of_getElem? (i := 6) rfl)) (fun _ h9 => h9) (v := .ref q65) (qs_rf eq65) dX7_act_115 ?_
      refine lv_iload_n hx hb dX7_act_118 rfl (lv_at hl 3 rfl) ?_
      obtain ⟨⟨hL66, fK67⟩, h⟩ := h
      obtain ⟨hi68, h⟩ := h
      refine qr_iald hx hb hG hL66 fK67 hi68 rfl dX7_act_119 ?_
      refine lv_topi (fun v69 ev69 => ?_)
      have h := h v69 ev69
      refine lv_iload_n hx hb dX7_act_120 rfl (lv_at hl 1 rfl) ?_
      refine lv_icmp_ne (tgt := 143) hx hb dX7_act_121 (by decide) (fun c70 => ?_) (fun c70 => ?_)
      · have h := h.1 c70
        exact b143 S a0 x1 x3 _ _ ls h hG (lv_sub hl [0, 1, 3] rfl)
      · have h := h.2 c70
        refine lv_aload_n hx hb dX7_act_124 rfl (lv_at hl 0 rfl) ?_
        refine lv_iload_n hx hb dX7_act_125 rfl (lv_at hl 2 rfl) ?_
        refine qc_i hG (va_runV (As := [.int x2]) (rest := []) ⟨hx, hb, hml, hown, hts⟩ (c_X7_puts l g _ S a0 x2 h) (cwV 1 hts gX7_act_X7_puts rfl rfl rfl (by decide +kernel) ⟨(Nat.le_of_ble_eq_true rfl), (Nat.le_of_ble_eq_true rfl)⟩) ⟨qs_Pc.blind _ _ _ _, hG.recv hL57 fK58 (by decide) rfl, hG.pre _⟩ rfl rfl hl.1 rfl (lv_room (Nat.le_of_ble_eq_true rfl)) dX7_act_126 ⟨Nat.zero_le _, Nat.zero_le _⟩) (fun v74 S73 H locs h hG => ?_)
        refine lv_if_eq (tgt := 141) hx hb dX7_act_129 (by decide) (fun c75 => ?_) (fun c75 => ?_)
        · have h := h.1 c75
          refine lv_iconst (v := (3 : Int32)) hx hb dX7_act_141 (by decide +kernel) ?_
          exact b142 S73 (3 : Int32) _ _ ls h hG (lv_sub hl [] rfl)
        · have h := h.2 c75
          refine lv_aload_n hx hb dX7_act_132 rfl (lv_at hl 0 rfl) ?_
          refine lv_iload_n hx hb dX7_act_133 rfl (lv_at hl 1 rfl) ?_
          refine lv_iload_n hx hb dX7_act_134 rfl (lv_at hl 2 rfl) ?_
          obtain ⟨⟨hL78, fK79⟩, h⟩ := h
          refine qc_i hG (va_runV (As := [.int x1, .int x2]) (rest := []) ⟨hx, hb, hml, hown, hts⟩ (c_X7_finishes l g _ S73 a0 x1 x2 h) (cwV 2 hts gX7_act_X7_finishes rfl rfl rfl (by decide +kernel) ⟨(Nat.le_of_ble_eq_true rfl), (Nat.le_of_ble_eq_true rfl)⟩) ⟨qs_Pc.blind _ _ _ _, hG.recv hL78 fK79 (by decide) rfl, hG.pre _⟩ rfl rfl hl.1 rfl (lv_room (Nat.le_of_ble_eq_true rfl)) dX7_act_135 ⟨Nat.zero_le _, Nat.zero_le _⟩) (fun v81 S80 H locs h hG => ?_)
          refine lv_goto (tgt := 142) hx hb dX7_act_138 (by decide) ?_
          exact b142 S80 v81 _ _ ls h hG (lv_sub hl [] rfl)
  have b16 : ∀ (S : qs_S) (a0 : Nat) (x1 : Int32) (r0 : Nat) (s1 : Int32) (H : Heap) (locs : List Loc) (ls : Array Slot), wp_X7_act_b16 g.2.2.2.2.2.2.1 g.2.2.2.2.2.2.2 post S a0 x1 r0 s1 → qs_Gd g (qs_F g SA s.heap.size) s S H locs → lv_has ls 4 [(0, .ref a0), (1, .int x1)] → W p l e (headSpec wsX7_act ({ frames := 3, cells := 0, slots := 0, locals := 69 } : Room)).room s m (([.ref a0z, .int x1z] : List Value)).toArray below meth c H locs 0 0 (MQ below (qs_Qi g (qs_F g SA s.heap.size) post) (([.ref a0z, .int x1z] : List Value)).toArray s 0 0 (qs_F g SA s.heap.size)) (F0 m 16 ls [.int s1, .ref r0]) := by
    intro S a0 x1 r0 s1 H locs ls h hG hl
    unfold wp_X7_act_b16 at h
    obtain ⟨⟨hL82, fK83⟩, h⟩ := h
    refine qr_putI (C := RX7) (T := TX7) (N := 35) (ci := 7) hx hb hts in7 tyX7 tyX7_ok nmX7 hown hG hL82 fK83 (by decide) rfl 0 (by decide) rfl (hts (.fieldLink RX7 95 "QuayMeshModel" "thrown" "I") (List.mem_of_getElem? (i := 1) rfl)) (fun _ h9 => h9) rfl (x := s1) (tyX7_ok 0 (by decide)) rfl rfl dX7_act_16 (fun H locs hG => ?_)
    refine lv_aload_n hx hb dX7_act_19 rfl (lv_at hl 0 rfl) ?_
    obtain ⟨⟨hL84, fK85⟩, h⟩ := h
    refine qr_get (C := RX7) (T := TX7) (N := 35) (ci := 7) hx hb hts in7 hown hG hL84 fK85 (by decide) rfl 0 (by decide) rfl (hts (.fieldLink RX7 95 "QuayMeshModel" "thrown" "I") (List.mem_of_getElem? (i := 1) rfl)) (fun _ h9 => h9) (v := .int (qs_I (qs_wI S 0 r0 s1) 0 a0)) rfl dX7_act_20 ?_
    refine lv_topi (fun v86 ev86 => ?_)
    have h := h v86 ev86
    refine lv_if_gt (tgt := 36) hx hb dX7_act_23 (by decide) (fun c87 => ?_) (fun c87 => ?_)
    · have h := h.1 c87
      exact b36 (qs_wI S 0 r0 s1) _ _ ls h hG (lv_sub hl [] rfl)
    · have h := h.2 c87
      refine lv_aload_n hx hb dX7_act_26 rfl (lv_at hl 0 rfl) ?_
      obtain ⟨q88, eq88, h⟩ := h
      refine qr_get (C := RX7) (T := TX7) (N := 35) (ci := 7) hx hb hts in7 hown hG hL84 fK85 (by decide) rfl 34 (by decide) rfl (hts (.fieldLink RX7 92 "QuayMeshModel" "seen" "[I") (List.mem_of_getElem? (i := 2) rfl)) (fun _ h9 => h9) (v := .ref q88) (qs_rf eq88) dX7_act_27 ?_
      refine lv_iload_n hx hb dX7_act_30 rfl (lv_at hl 1 rfl) ?_
      obtain ⟨⟨hL89, fK90⟩, h⟩ := h
      obtain ⟨hi91, h⟩ := h
      refine qr_iald hx hb hG hL89 fK90 hi91 rfl dX7_act_31 ?_
      refine lv_topi (fun v92 ev92 => ?_)
      have h := h v92 ev92
      refine lv_iconst (v := (-1 : Int32)) hx hb dX7_act_32 (by decide +kernel) ?_
      refine lv_icmp_ne (tgt := 38) hx hb dX7_act_33 (by decide) (fun c93 => ?_) (fun c93 => ?_)
      · have h := h.1 c93
        refine lv_aload_n hx hb dX7_act_38 rfl (lv_at hl 0 rfl) ?_
        obtain ⟨q94, eq94, h⟩ := h
        refine qr_get (C := RX7) (T := TX7) (N := 35) (ci := 7) hx hb hts in7 hown hG hL84 fK85 (by decide) rfl 34 (by decide) rfl (hts (.fieldLink RX7 92 "QuayMeshModel" "seen" "[I") (List.mem_of_getElem? (i := 2) rfl)) (fun _ h9 => h9) (v := .ref q94) (qs_rf eq94) dX7_act_39 ?_
        refine lv_iload_n hx hb dX7_act_42 rfl (lv_at hl 1 rfl) ?_
        obtain ⟨⟨hL95, fK96⟩, h⟩ := h
        obtain ⟨hi97, h⟩ := h
        refine qr_iald hx hb hG hL95 fK96 hi97 rfl dX7_act_43 ?_
        refine lv_topi (fun v98 ev98 => ?_)
        have h := h v98 ev98
        refine lv_istore_n (lv' := [(2, .int v98), (0, .ref a0), (1, .int x1)]) hx hb dX7_act_44 rfl hl (by decide) rfl (fun ls hl => ?_)
        refine lv_aload_n hx hb dX7_act_45 rfl (lv_at hl 1 rfl) ?_
        obtain ⟨q99, eq99, h⟩ := h
        refine qr_get (C := RX7) (T := TX7) (N := 35) (ci := 7) hx hb hts in7 hown hG hL84 fK85 (by decide) rfl 20 (by decide) rfl (hts (.fieldLink RX7 56 "QuayMeshModel" "box" "[I") (List.mem_of_getElem? (i := 3) rfl)) (fun _ h9 => h9) (v := .ref q99) (qs_rf eq99) dX7_act_46 ?_
        refine lv_iload_n hx hb dX7_act_49 rfl (lv_at hl 0 rfl) ?_
        obtain ⟨⟨hL100, fK101⟩, h⟩ := h
        obtain ⟨hi102, h⟩ := h
        refine qr_iald hx hb hG hL100 fK101 hi102 rfl dX7_act_50 ?_
        refine lv_topi (fun v103 ev103 => ?_)
        have h := h v103 ev103
        refine lv_istore_n (lv' := [(3, .int v103), (2, .int v98), (0, .ref a0), (1, .int x1)]) hx hb dX7_act_51 rfl hl (by decide) rfl (fun ls hl => ?_)
        refine lv_aload_n hx hb dX7_act_52 rfl (lv_at hl 2 rfl) ?_
        obtain ⟨q104, eq104, h⟩ := h
        refine qr_get (C := RX7) (T := TX7) (N := 35) (ci := 7) hx hb hts in7 hown hG hL84 fK85 (by decide) rfl 9 (by decide) rfl (hts (.fieldLink RX7 26 "QuayMeshModel" "where" "[I") (List.mem_of_getElem? (i := 4) rfl)) (fun _ h9 => h9) (v := .ref q104) (qs_rf eq104) dX7_act_53 ?_
        refine lv_iload_n hx hb dX7_act_56 rfl (lv_at hl 0 rfl) ?_
        obtain ⟨⟨hL105, fK106⟩, h⟩ := h
        obtain ⟨hi107, h⟩ := h
        refine qr_iald hx hb hG hL105 fK106 hi107 rfl dX7_act_57 ?_
        refine lv_topi (fun v108 ev108 => ?_)
        have h := h v108 ev108
        refine lv_iconst (v := (4 : Int32)) hx hb dX7_act_58 (by decide +kernel) ?_
        refine lv_icmp_eq (tgt := 97) hx hb dX7_act_59 (by decide) (fun c109 => ?_) (fun c109 => ?_)
        · have h := h.1 c109
          exact b97 (qs_wI S 0 r0 s1) a0 x1 v98 _ _ ls h hG (lv_sub hl [2, 3, 1] rfl)
        · have h := h.2 c109
          refine lv_aload_n hx hb dX7_act_62 rfl (lv_at hl 2 rfl) ?_
          obtain ⟨q110, eq110, h⟩ := h
          refine qr_get (C := RX7) (T := TX7) (N := 35) (ci := 7) hx hb hts in7 hown hG hL84 fK85 (by decide) rfl 19 (by decide) rfl (hts (.fieldLink RX7 53 "QuayMeshModel" "kind" "[I") (List.mem_of_getElem? (i := 5) rfl)) (fun _ h9 => h9) (v := .ref q110) (qs_rf eq110) dX7_act_63 ?_
          refine lv_iload_n hx hb dX7_act_66 rfl (lv_at hl 1 rfl) ?_
          obtain ⟨⟨hL111, fK112⟩, h⟩ := h
          obtain ⟨hi113, h⟩ := h
          refine qr_iald hx hb hG hL111 fK112 hi113 rfl dX7_act_67 ?_
          refine lv_topi (fun v114 ev114 => ?_)
          have h := h v114 ev114
          refine lv_iconst (v := (1 : Int32)) hx hb dX7_act_68 (by decide +kernel) ?_
          refine lv_icmp_ne (tgt := 104) hx hb dX7_act_69 (by decide) (fun c115 => ?_) (fun c115 => ?_)
          · have h := h.1 c115
            exact b104 (qs_wI S 0 r0 s1) a0 x1 v98 v103 _ _ ls h hG (lv_sub hl [2, 3, 1, 0] rfl)
          · have h := h.2 c115
            refine lv_aload_n hx hb dX7_act_72 rfl (lv_at hl 2 rfl) ?_
            obtain ⟨q116, eq116, h⟩ := h
            refine qr_get (C := RX7) (T := TX7) (N := 35) (ci := 7) hx hb hts in7 hown hG hL84 fK85 (by decide) rfl 9 (by decide) rfl (hts (.fieldLink RX7 26 "QuayMeshModel" "where" "[I") (List.mem_of_getElem? (i := 4) rfl)) (fun _ h9 => h9) (v := .ref q116) (qs_rf eq116) dX7_act_73 ?_
            refine lv_iload_n hx hb dX7_act_76 rfl (lv_at hl 0 rfl) ?_
            obtain ⟨⟨hL117, fK118⟩, h⟩ := h
            obtain ⟨hi119, h⟩ := h
            refine qr_iald hx hb hG hL117 fK118 hi119 rfl dX7_act_77 ?_
            refine lv_topi (fun v120 ev120 => ?_)
            have h := h v120 ev120
            refine lv_iconst (v := (3 : Int32)) hx hb dX7_act_78 (by decide +kernel) ?_
            refine lv_icmp_ne (tgt := 104) hx hb dX7_act_79 (by decide) (fun c121 => ?_) (fun c121 => ?_)
            · have h := h.1 c121
              exact b104 (qs_wI S 0 r0 s1) a0 x1 v98 v103 _ _ ls h hG (lv_sub hl [2, 3, 1, 0] rfl)
            · have h := h.2 c121
              refine lv_aload_n hx hb dX7_act_82 rfl (lv_at hl 2 rfl) ?_
              obtain ⟨q122, eq122, h⟩ := h
              refine qr_get (C := RX7) (T := TX7) (N := 35) (ci := 7) hx hb hts in7 hown hG hL84 fK85 (by decide) rfl 10 (by decide) rfl (hts (.fieldLink RX7 29 "QuayMeshModel" "at" "[I") (List.mem_of_getElem? (i := 6) rfl)) (fun _ h9 => h9) (v := .ref q122) (qs_rf eq122) dX7_act_83 ?_
              refine lv_iload_n hx hb dX7_act_86 rfl (lv_at hl 0 rfl) ?_
              obtain ⟨⟨hL123, fK124⟩, h⟩ := h
              obtain ⟨hi125, h⟩ := h
              refine qr_iald hx hb hG hL123 fK124 hi125 rfl dX7_act_87 ?_
              refine lv_topi (fun v126 ev126 => ?_)
              have h := h v126 ev126
              refine lv_aload_n hx hb dX7_act_88 rfl (lv_at hl 2 rfl) ?_
              obtain ⟨q127, eq127, h⟩ := h
              refine qr_get (C := RX7) (T := TX7) (N := 35) (ci := 7) hx hb hts in7 hown hG hL84 fK85 (by decide) rfl 21 (by decide) rfl (hts (.fieldLink RX7 59 "QuayMeshModel" "target" "[I") (List.mem_of_getElem? (i := 7) rfl)) (fun _ h9 => h9) (v := .ref q127) (qs_rf eq127) dX7_act_89 ?_
              refine lv_iload_n hx hb dX7_act_92 rfl (lv_at hl 1 rfl) ?_
              obtain ⟨⟨hL128, fK129⟩, h⟩ := h
              obtain ⟨hi130, h⟩ := h
              refine qr_iald hx hb hG hL128 fK129 hi130 rfl dX7_act_93 ?_
              refine lv_topi (fun v131 ev131 => ?_)
              have h := h v131 ev131
              refine lv_icmp_ne (tgt := 104) hx hb dX7_act_94 (by decide) (fun c132 => ?_) (fun c132 => ?_)
              · have h := h.1 c132
                exact b104 (qs_wI S 0 r0 s1) a0 x1 v98 v103 _ _ ls h hG (lv_sub hl [2, 3, 1, 0] rfl)
              · have h := h.2 c132
                exact b97 (qs_wI S 0 r0 s1) a0 x1 v98 _ _ ls h hG (lv_sub hl [2, 3, 1] rfl)
      · have h := h.2 c93
        exact b36 (qs_wI S 0 r0 s1) _ _ ls h hG (lv_sub hl [] rfl)
  have hl := lv_entry ([.ref a0z, .int x1z]) (n := 4) (Nat.le_of_ble_eq_true rfl)
  rw [lg_entry_eq]
  generalize (lg_sl ([.ref a0z, .int x1z]) ++ List.replicate (4 - (lg_sl ([.ref a0z, .int x1z])).length) Slot.unset).toArray = ls at hl ⊢
  have hl : lv_has ls 4 [(0, .ref a0z), (1, .int x1z)] := hl
  unfold wp_X7_act at h
  refine lv_aload_n hx hb dX7_act_0 rfl (lv_at hl 0 rfl) ?_
  refine lv_iload_n hx hb dX7_act_1 rfl (lv_at hl 1 rfl) ?_
  refine lv_iconst (v := (4 : Int32)) hx hb dX7_act_2 (by decide +kernel) ?_
  refine lv_bipush (v := (7 : Int32)) hx hb dX7_act_3 (by decide +kernel) ?_
  refine qc_i hG (va_runS (As := [.int x1z, .int (4 : Int32), .int (7 : Int32)]) (rest := [.ref a0z]) ⟨hx, hb, hml, hown, hts⟩ (c_X7_in l g _ SA x1z (4 : Int32) (7 : Int32) h) (va_cwS 3 hts gX7_act_X7_in rfl rfl rfl (by decide +kernel) ⟨(Nat.le_of_ble_eq_true rfl), (Nat.le_of_ble_eq_true rfl)⟩) ⟨qs_Pc.blind _ _ _ _, hG.pre _⟩ rfl rfl hl.1 rfl (lv_room (Nat.le_of_ble_eq_true rfl)) dX7_act_5 ⟨Nat.zero_le _, Nat.zero_le _⟩) (fun v136 S135 H locs h hG => ?_)
  refine lv_if_eq (tgt := 15) hx hb dX7_act_8 (by decide) (fun c137 => ?_) (fun c137 => ?_)
  · have h := h.1 c137
    refine lv_iconst (v := (1 : Int32)) hx hb dX7_act_15 (by decide +kernel) ?_
    exact b16 S135 a0z x1z a0z (1 : Int32) _ _ ls h hG (lv_sub hl [0, 1] rfl)
  · have h := h.2 c137
    refine lv_iconst (v := (0 : Int32)) hx hb dX7_act_11 (by decide +kernel) ?_
    refine lv_goto (tgt := 16) hx hb dX7_act_12 (by decide) ?_
    exact b16 S135 a0z x1z a0z (0 : Int32) _ _ ls h hG (lv_sub hl [0, 1] rfl)
def wp_X7_lose_b94 (t0 m9 : Nat) (post : Int32 → qs_S → Prop) (S : qs_S) (s0 : Int32) : Prop := post s0 S
def wp_X7_lose_b73 (t0 m9 : Nat) (post : Int32 → qs_S → Prop) (S : qs_S) (a0 : Nat) (x1 : Int32) (x3 : Int32) (r0 : Nat) (s1 : Int32) (s2 : Int32) (s3 : Int32) : Prop := ∀ v1 : Int32, v1 = s2 + s3 → (r0 ∈ qs_L S ∧ qs_K S r0 = 8) ∧ (vp_in s1 (qs_Z S r0) ∧ ((x3 = 0 → ((a0 ∈ qs_L (qs_wA S r0 s1.toNatClampNeg v1) ∧ qs_K (qs_wA S r0 s1.toNatClampNeg v1) a0 = 7) ∧ (∃ q8 : Nat, qs_R (qs_wA S r0 s1.toNatClampNeg v1) 31 a0 = some q8 ∧ ((q8 ∈ qs_L (qs_wA S r0 s1.toNatClampNeg v1) ∧ qs_K (qs_wA S r0 s1.toNatClampNeg v1) q8 = 8) ∧ (vp_in x1 (qs_Z (qs_wA S r0 s1.toNatClampNeg v1) q8) ∧ (∀ v12 : Int32, v12 = qs_A (qs_wA S r0 s1.toNatClampNeg v1) q8 x1.toNatClampNeg → wp_X7_lose_b94 t0 m9 post (qs_wA S r0 s1.toNatClampNeg v1) v12)))))) ∧ (¬ x3 = 0 → ((a0 ∈ qs_L (qs_wA S r0 s1.toNatClampNeg v1) ∧ qs_K (qs_wA S r0 s1.toNatClampNeg v1) a0 = 7) ∧ (∃ q15 : Nat, qs_R (qs_wA S r0 s1.toNatClampNeg v1) 32 a0 = some q15 ∧ ((q15 ∈ qs_L (qs_wA S r0 s1.toNatClampNeg v1) ∧ qs_K (qs_wA S r0 s1.toNatClampNeg v1) q15 = 8) ∧ (vp_in x1 (qs_Z (qs_wA S r0 s1.toNatClampNeg v1) q15) ∧ (∀ v19 : Int32, v19 = qs_A (qs_wA S r0 s1.toNatClampNeg v1) q15 x1.toNatClampNeg → wp_X7_lose_b94 t0 m9 post (qs_wA S r0 s1.toNatClampNeg v1) v19))))))))
def wp_X7_lose_b55 (t0 m9 : Nat) (post : Int32 → qs_S → Prop) (S : qs_S) (a0 : Nat) (x1 : Int32) (x2 : Int32) (x3 : Int32) (r0 : Nat) (s1 : Int32) (s2 : Int32) (s3 : Int32) : Prop := ∀ v20 : Int32, v20 = s2 + s3 → (r0 ∈ qs_L S ∧ qs_K S r0 = 8) ∧ (vp_in s1 (qs_Z S r0) ∧ ((a0 ∈ qs_L (qs_wA S r0 s1.toNatClampNeg v20) ∧ qs_K (qs_wA S r0 s1.toNatClampNeg v20) a0 = 7) ∧ (∃ q26 : Nat, qs_R (qs_wA S r0 s1.toNatClampNeg v20) 31 a0 = some q26 ∧ ((q26 ∈ qs_L (qs_wA S r0 s1.toNatClampNeg v20) ∧ qs_K (qs_wA S r0 s1.toNatClampNeg v20) q26 = 8) ∧ (vp_in x1 (qs_Z (qs_wA S r0 s1.toNatClampNeg v20) q26) ∧ (∀ v30 : Int32, v30 = qs_A (qs_wA S r0 s1.toNatClampNeg v20) q26 x1.toNatClampNeg → (x3 = 0 → (wp_X7_lose_b73 t0 m9 post (qs_wA S r0 s1.toNatClampNeg v20) a0 x1 x3 q26 x1 v30 x2)) ∧ (¬ x3 = 0 → (wp_X7_lose_b73 t0 m9 post (qs_wA S r0 s1.toNatClampNeg v20) a0 x1 x3 q26 x1 v30 (0 : Int32)))))))))
def wp_X7_lose_b27 (t0 m9 : Nat) (post : Int32 → qs_S → Prop) (S : qs_S) (a0 : Nat) (x1 : Int32) (x2 : Int32) (x3 : Int32) (r0 : Nat) (s1 : Int32) : Prop := (r0 ∈ qs_L S ∧ qs_K S r0 = 7) ∧ ((a0 ∈ qs_L (qs_wI S 0 r0 s1) ∧ qs_K (qs_wI S 0 r0 s1) a0 = 7) ∧ (∀ v36 : Int32, v36 = qs_I (qs_wI S 0 r0 s1) 0 a0 → (v36 ≤ 0 → (∃ q38 : Nat, qs_R (qs_wI S 0 r0 s1) 32 a0 = some q38 ∧ ((q38 ∈ qs_L (qs_wI S 0 r0 s1) ∧ qs_K (qs_wI S 0 r0 s1) q38 = 8) ∧ (vp_in x1 (qs_Z (qs_wI S 0 r0 s1) q38) ∧ (∀ v42 : Int32, v42 = qs_A (qs_wI S 0 r0 s1) q38 x1.toNatClampNeg → (x3 = 0 → (wp_X7_lose_b55 t0 m9 post (qs_wI S 0 r0 s1) a0 x1 x2 x3 q38 x1 v42 (0 : Int32))) ∧ (¬ x3 = 0 → (wp_X7_lose_b55 t0 m9 post (qs_wI S 0 r0 s1) a0 x1 x2 x3 q38 x1 v42 x2))))))) ∧ (¬ v36 ≤ 0 → (post (0 : Int32) (qs_wI S 0 r0 s1)))))
def wp_X7_lose (t0 m9 : Nat) (post : Int32 → qs_S → Prop) (SA : qs_S) (a0z : Nat) (x1z : Int32) (x2z : Int32) (x3z : Int32) : Prop := wp_X7_isWorker t0 m9 (fun (v47 : Int32) (S46 : qs_S) => (¬ v47 = 0 → (wp_X7_in t0 m9 (fun (v52 : Int32) (S51 : qs_S) => (v52 = 0 → (wp_X7_lose_b27 t0 m9 post S51 a0z x1z x2z x3z a0z (2 : Int32))) ∧ (¬ v52 = 0 → (wp_X7_lose_b27 t0 m9 post S51 a0z x1z x2z x3z a0z (0 : Int32)))) S46 x2z (1 : Int32) (9 : Int32))) ∧ (v47 = 0 → (wp_X7_lose_b27 t0 m9 post S46 a0z x1z x2z x3z a0z (1 : Int32)))) SA x1z
set_option maxHeartbeats 4000000 in
set_option maxRecDepth 100000 in
theorem c_X7_lose (l : Launch) (g : qs_G) (sz : Nat) (SA : qs_S) (a0z : Nat) (x1z : Int32) (x2z : Int32) (x3z : Int32) {post : Int32 → qs_S → Prop} (h : wp_X7_lose g.2.2.2.2.2.2.1 g.2.2.2.2.2.2.2 post SA a0z x1z x2z x3z) : Met l yX7_lose wsX7_lose ({ frames := 2, cells := 0, slots := 0, locals := 42 } : Room) (qs_Pc g sz SA [.ref a0z, .int x1z, .int x2z, .int x3z]) (qs_Qi g (qs_F g SA sz) post) 0 0 (qs_F g SA sz) := by
  refine Met.ofW (cc := cX7_lose) (maxL := 4) (ret := (some .int)) (by decide +kernel) rfl ?_
  intro p e s m args below meth c s₁ B hml hv
  obtain ⟨rfl, hsz, hG⟩ := qs_Gd.start hv
  subst hsz
  have hx := B.exec
  have hb := B.bytes
  have hr := B.returns
  have hts := atoms_spec (ws := wsX7_lose) B.pre
  have hown : s.vm.findClass RX7 = some m.cls := findClass_of_methodNamed B.named
  have hlk := B.notSynchronized
  have in7 : ∀ w ∈ u_ws RX7 TX7 35, w ∈ wsX7_lose := fun w h => List.mem_cons_of_mem _ (List.mem_append_right _ (h))
  have b94 : ∀ (S : qs_S) (s0 : Int32) (H : Heap) (locs : List Loc) (ls : Array Slot), wp_X7_lose_b94 g.2.2.2.2.2.2.1 g.2.2.2.2.2.2.2 post S s0 → qs_Gd g (qs_F g SA s.heap.size) s S H locs → lv_has ls 4 [] → W p l e (headSpec wsX7_lose ({ frames := 2, cells := 0, slots := 0, locals := 42 } : Room)).room s m (([.ref a0z, .int x1z, .int x2z, .int x3z] : List Value)).toArray below meth c H locs 0 0 (MQ below (qs_Qi g (qs_F g SA s.heap.size) post) (([.ref a0z, .int x1z, .int x2z, .int x3z] : List Value)).toArray s 0 0 (qs_F g SA s.heap.size)) (F0 m 94 ls [.int s0]) := by
    intro S s0 H locs ls h hG hl
    unfold wp_X7_lose_b94 at h
    exact qe_i hx hb hr hlk hG h (Nat.le_refl _) (Nat.le_refl _) dX7_lose_94
  have b73 : ∀ (S : qs_S) (a0 : Nat) (x1 : Int32) (x3 : Int32) (r0 : Nat) (s1 : Int32) (s2 : Int32) (s3 : Int32) (H : Heap) (locs : List Loc) (ls : Array Slot), wp_X7_lose_b73 g.2.2.2.2.2.2.1 g.2.2.2.2.2.2.2 post S a0 x1 x3 r0 s1 s2 s3 → qs_Gd g (qs_F g SA s.heap.size) s S H locs → lv_has ls 4 [(0, .ref a0), (1, .int x1), (3, .int x3)] → W p l e (headSpec wsX7_lose ({ frames := 2, cells := 0, slots := 0, locals := 42 } : Room)).room s m (([.ref a0z, .int x1z, .int x2z, .int x3z] : List Value)).toArray below meth c H locs 0 0 (MQ below (qs_Qi g (qs_F g SA s.heap.size) post) (([.ref a0z, .int x1z, .int x2z, .int x3z] : List Value)).toArray s 0 0 (qs_F g SA s.heap.size)) (F0 m 73 ls [.int s3, .int s2, .int s1, .ref r0]) := by
    intro S a0 x1 x3 r0 s1 s2 s3 H locs ls h hG hl
    unfold wp_X7_lose_b73 at h
    refine lv_iadd hx hb dX7_lose_73 ?_
    refine lv_topi (fun v1 ev1 => ?_)
    have h := h v1 ev1
    obtain ⟨⟨hL2, fK3⟩, h⟩ := h
    obtain ⟨hi4, h⟩ := h
    refine qr_iast hx hb hG hL2 fK3 hi4 dX7_lose_74 (fun H locs hG => ?_)
    refine lv_iload_n hx hb dX7_lose_75 rfl (lv_at hl 2 rfl) ?_
    refine lv_if_eq (tgt := 88) hx hb dX7_lose_76 (by decide) (fun c5 => ?_) (fun c5 => ?_)
    · have h := h.1 c5
      refine lv_aload_n hx hb dX7_lose_88 rfl (lv_at hl 0 rfl) ?_
      obtain ⟨⟨hL6, fK7⟩, h⟩ := h
      obtain ⟨q8, eq8, h⟩ := h
      refine qr_get (C := RX7) (T := TX7) (N := 35) (ci := 7) hx hb hts in7 hown hG hL6 fK7 (by decide) rfl 31 (by decide) rfl (hts (.fieldLink RX7 83 "QuayMeshModel" "lossDue" "[I") (List.mem_of_getElem? (i := 3) rfl)) (fun _ h9 => h9) (v := .ref q8) (qs_rf eq8) dX7_lose_89 ?_
      refine lv_iload_n hx hb dX7_lose_92 rfl (lv_at hl 1 rfl) ?_
      obtain ⟨⟨hL9, fK10⟩, h⟩ := h
      obtain ⟨hi11, h⟩ := h
      refine qr_iald hx hb hG hL9 fK10 hi11 rfl dX7_lose_93 ?_
      refine lv_topi (fun v12 ev12 => ?_)
      have h := h v12 ev12
      exact b94 (qs_wA S r0 s1.toNatClampNeg v1) v12 _ _ ls h hG (lv_sub hl [] rfl)
    · have h := h.2 c5
      refine lv_aload_n hx hb dX7_lose_79 rfl (lv_at hl 0 rfl) ?_
      obtain ⟨⟨hL13, fK14⟩, h⟩ := h
      obtain ⟨q15, eq15, h⟩ := h
      refine qr_get (C := RX7) (T := TX7) (N := 35) (ci := 7) hx hb hts in7 hown hG hL13 fK14 (by decide) rfl 32 (by decide) rfl (hts (.fieldLink RX7 86 "QuayMeshModel" "ackLossDue" "[I") (List.mem_of_getElem? (i := 2) rfl)) (fun _ h9 => h9) (v := .ref q15) (qs_rf eq15) dX7_lose_80 ?_
      refine lv_iload_n hx hb dX7_lose_83 rfl (lv_at hl 1 rfl) ?_
      obtain ⟨⟨hL16, fK17⟩, h⟩ := h
      obtain ⟨hi18, h⟩ := h
      refine qr_iald hx hb hG hL16 fK17 hi18 rfl dX7_lose_84 ?_
      refine lv_topi (fun v19 ev19 => ?_)
      have h := h v19 ev19
      refine lv_goto (tgt := 94) hx hb dX7_lose_85 (by decide) ?_
      exact b94 (qs_wA S r0 s1.toNatClampNeg v1) v19 _ _ ls h hG (lv_sub hl [] rfl)
  have b55 : ∀ (S : qs_S) (a0 : Nat) (x1 : Int32) (x2 : Int32) (x3 : Int32) (r0 : Nat) (s1 : Int32) (s2 : Int32) (s3 : Int32) (H : Heap) (locs : List Loc) (ls : Array Slot), wp_X7_lose_b55 g.2.2.2.2.2.2.1 g.2.2.2.2.2.2.2 post S a0 x1 x2 x3 r0 s1 s2 s3 → qs_Gd g (qs_F g SA s.heap.size) s S H locs → lv_has ls 4 [(0, .ref a0), (1, .int x1), (2, .int x2), (3, .int x3)] → W p l e (headSpec wsX7_lose ({ frames := 2, cells := 0, slots := 0, locals := 42 } : Room)).room s m (([.ref a0z, .int x1z, .int x2z, .int x3z] : List Value)).toArray below meth c H locs 0 0 (MQ below (qs_Qi g (qs_F g SA s.heap.size) post) (([.ref a0z, .int x1z, .int x2z, .int x3z] : List Value)).toArray s 0 0 (qs_F g SA s.heap.size)) (F0 m 55 ls [.int s3, .int s2, .int s1, .ref r0]) := by
    intro S a0 x1 x2 x3 r0 s1 s2 s3 H locs ls h hG hl
    unfold wp_X7_lose_b55 at h
    refine lv_iadd hx hb dX7_lose_55 ?_
    refine lv_topi (fun v20 ev20 => ?_)
    have h := h v20 ev20
    obtain ⟨⟨hL21, fK22⟩, h⟩ := h
    obtain ⟨hi23, h⟩ := h
    refine qr_iast hx hb hG hL21 fK22 hi23 dX7_lose_56 (fun H locs hG => ?_)
    refine lv_aload_n hx hb dX7_lose_57 rfl (lv_at hl 0 rfl) ?_
    obtain ⟨⟨hL24, fK25⟩, h⟩ := h
    obtain ⟨q26, eq26, h⟩ := h
    refine qr_get (C := RX7) (T := TX7) (N := 35) (ci := 7) hx hb hts in7 hown hG hL24 fK25 (by decide) rfl 31 (by decide) rfl (hts (.fieldLink RX7 83 "QuayMeshModel" "lossDue" "[I") (List.mem_of_getElem? (i := 3) rfl)) (fun _ h9 => h9) (v := .ref q26) (qs_rf eq26) dX7_lose_58 ?_
    refine lv_iload_n hx hb dX7_lose_61 rfl (lv_at hl 1 rfl) ?_
    refine lv_dup2_11 hx hb dX7_lose_62 rfl rfl ?_
    obtain ⟨⟨hL27, fK28⟩, h⟩ := h
    obtain ⟨hi29, h⟩ := h
    refine qr_iald hx hb hG hL27 fK28 hi29 rfl dX7_lose_63 ?_
    refine lv_topi (fun v30 ev30 => ?_)
    have h := h v30 ev30
    refine lv_iload_n hx hb dX7_lose_64 rfl (lv_at hl 3 rfl) ?_
    refine lv_if_eq (tgt := 72) hx hb dX7_lose_65 (by decide) (fun c31 => ?_) (fun c31 => ?_)
    · have h := h.1 c31
      refine lv_iload_n hx hb dX7_lose_72 rfl (lv_at hl 2 rfl) ?_
      exact b73 (qs_wA S r0 s1.toNatClampNeg v20) a0 x1 x3 q26 x1 v30 x2 _ _ ls h hG (lv_sub hl [0, 1, 3] rfl)
    · have h := h.2 c31
      refine lv_iconst (v := (0 : Int32)) hx hb dX7_lose_68 (by decide +kernel) ?_
      refine lv_goto (tgt := 73) hx hb dX7_lose_69 (by decide) ?_
      exact b73 (qs_wA S r0 s1.toNatClampNeg v20) a0 x1 x3 q26 x1 v30 (0 : Int32) _ _ ls h hG (lv_sub hl [0, 1, 3] rfl)
  have b27 : ∀ (S : qs_S) (a0 : Nat) (x1 : Int32) (x2 : Int32) (x3 : Int32) (r0 : Nat) (s1 : Int32) (H : Heap) (locs : List Loc) (ls : Array Slot), wp_X7_lose_b27 g.2.2.2.2.2.2.1 g.2.2.2.2.2.2.2 post S a0 x1 x2 x3 r0 s1 → qs_Gd g (qs_F g SA s.heap.size) s S H locs → lv_has ls 4 [(0, .ref a0), (1, .int x1), (2, .int x2), (3, .int x3)] → W p l e (headSpec wsX7_lose ({ frames := 2, cells := 0, slots := 0, locals := 42 } : Room)).room s m (([.ref a0z, .int x1z, .int x2z, .int x3z] : List Value)).toArray below meth c H locs 0 0 (MQ below (qs_Qi g (qs_F g SA s.heap.size) post) (([.ref a0z, .int x1z, .int x2z, .int x3z] : List Value)).toArray s 0 0 (qs_F g SA s.heap.size)) (F0 m 27 ls [.int s1, .ref r0]) := by
    intro S a0 x1 x2 x3 r0 s1 H locs ls h hG hl
    unfold wp_X7_lose_b27 at h
    obtain ⟨⟨hL32, fK33⟩, h⟩ := h
    refine qr_putI (C := RX7) (T := TX7) (N := 35) (ci := 7) hx hb hts in7 tyX7 tyX7_ok nmX7 hown hG hL32 fK33 (by decide) rfl 0 (by decide) rfl (hts (.fieldLink RX7 95 "QuayMeshModel" "thrown" "I") (List.mem_of_getElem? (i := 1) rfl)) (fun _ h9 => h9) rfl (x := s1) (tyX7_ok 0 (by decide)) rfl rfl dX7_lose_27 (fun H locs hG => ?_)
    refine lv_aload_n hx hb dX7_lose_30 rfl (lv_at hl 0 rfl) ?_
    obtain ⟨⟨hL34, fK35⟩, h⟩ := h
    refine qr_get (C := RX7) (T := TX7) (N := 35) (ci := 7) hx hb hts in7 hown hG hL34 fK35 (by decide) rfl 0 (by decide) rfl (hts (.fieldLink RX7 95 "QuayMeshModel" "thrown" "I") (List.mem_of_getElem? (i := 1) rfl)) (fun _ h9 => h9) (v := .int (qs_I (qs_wI S 0 r0 s1) 0 a0)) rfl dX7_lose_31 ?_
    refine lv_topi (fun v36 ev36 => ?_)
    have h := h v36 ev36
    refine lv_if_le (tgt := 39) hx hb dX7_lose_34 (by decide) (fun c37 => ?_) (fun c37 => ?_)
    · have h := h.1 c37
      refine lv_aload_n hx hb dX7_lose_39 rfl (lv_at hl 0 rfl) ?_
      obtain ⟨q38, eq38, h⟩ := h
      refine qr_get (C := RX7) (T := TX7) (N := 35) (ci := 7) hx hb hts in7 hown hG hL34 fK35 (by decide) rfl 32 (by decide) rfl (hts (.fieldLink RX7 86 "QuayMeshModel" "ackLossDue" "[I") (List.mem_of_getElem? (i := 2) rfl)) (fun _ h9 => h9) (v := .ref q38) (qs_rf eq38) dX7_lose_40 ?_
      refine lv_iload_n hx hb dX7_lose_43 rfl (lv_at hl 1 rfl) ?_
      refine lv_dup2_11 hx hb dX7_lose_44 rfl rfl ?_
      obtain ⟨⟨hL39, fK40⟩, h⟩ := h
      obtain ⟨hi41, h⟩ := h
      refine qr_iald hx hb hG hL39 fK40 hi41 rfl dX7_lose_45 ?_
      refine lv_topi (fun v42 ev42 => ?_)
      have h := h v42 ev42
      refine lv_iload_n hx hb dX7_lose_46 rfl (lv_at hl 3 rfl) ?_
      refine lv_if_eq (tgt := 54) hx hb dX7_lose_47 (by decide) (fun c43 => ?_) (fun c43 => ?_)
      · have h := h.1 c43
        refine lv_iconst (v := (0 : Int32)) hx hb dX7_lose_54 (by decide +kernel) ?_
        exact b55 (qs_wI S 0 r0 s1) a0 x1 x2 x3 q38 x1 v42 (0 : Int32) _ _ ls h hG (lv_sub hl [0, 1, 2, 3] rfl)
      · have h := h.2 c43
        refine lv_iload_n hx hb dX7_lose_50 rfl (lv_at hl 2 rfl) ?_
        refine lv_goto (tgt := 55) hx hb dX7_lose_51 (by decide) ?_
        exact b55 (qs_wI S 0 r0 s1) a0 x1 x2 x3 q38 x1 v42 x2 _ _ ls h hG (lv_sub hl [0, 1, 2, 3] rfl)
    · have h := h.2 c37
      refine lv_iconst (v := (0 : Int32)) hx hb dX7_lose_37 (by decide +kernel) ?_
      exact qe_i hx hb hr hlk hG h (Nat.le_refl _) (Nat.le_refl _) dX7_lose_38
  have hl := lv_entry ([.ref a0z, .int x1z, .int x2z, .int x3z]) (n := 4) (Nat.le_of_ble_eq_true rfl)
  rw [lg_entry_eq]
  generalize (lg_sl ([.ref a0z, .int x1z, .int x2z, .int x3z]) ++ List.replicate (4 - (lg_sl ([.ref a0z, .int x1z, .int x2z, .int x3z])).length) Slot.unset).toArray = ls at hl ⊢
  have hl : lv_has ls 4 [(0, .ref a0z), (1, .int x1z), (2, .int x2z), (3, .int x3z)] := hl
  unfold wp_X7_lose at h
  refine lv_aload_n hx hb dX7_lose_0 rfl (lv_at hl 0 rfl) ?_
  refine lv_iload_n hx hb dX7_lose_1 rfl (lv_at hl 1 rfl) ?_
  refine qc_i hG (va_runS (As := [.int x1z]) (rest := [.ref a0z]) ⟨hx, hb, hml, hown, hts⟩ (c_X7_isWorker l g _ SA x1z h) (va_cwS 1 hts gX7_lose_X7_isWorker rfl rfl rfl (by decide +kernel) ⟨(Nat.le_of_ble_eq_true rfl), (Nat.le_of_ble_eq_true rfl)⟩) ⟨qs_Pc.blind _ _ _ _, hG.pre _⟩ rfl rfl hl.1 rfl (lv_room (Nat.le_of_ble_eq_true rfl)) dX7_lose_2 ⟨Nat.zero_le _, Nat.zero_le _⟩) (fun v47 S46 H locs h hG => ?_)
  refine lv_if_ne (tgt := 12) hx hb dX7_lose_5 (by decide) (fun c48 => ?_) (fun c48 => ?_)
  · have h := h.1 c48
    refine lv_iload_n hx hb dX7_lose_12 rfl (lv_at hl 2 rfl) ?_
    refine lv_iconst (v := (1 : Int32)) hx hb dX7_lose_13 (by decide +kernel) ?_
    refine lv_bipush (v := (9 : Int32)) hx hb dX7_lose_14 (by decide +kernel) ?_
    refine qc_i hG (va_runS (As := [.int x2z, .int (1 : Int32), .int (9 : Int32)]) (rest := [.ref a0z]) ⟨hx, hb, hml, hown, hts⟩ (c_X7_in l g _ S46 x2z (1 : Int32) (9 : Int32) h) (va_cwS 3 hts gX7_lose_X7_in rfl rfl rfl (by decide +kernel) ⟨(Nat.le_of_ble_eq_true rfl), (Nat.le_of_ble_eq_true rfl)⟩) ⟨qs_Pc.blind _ _ _ _, hG.pre _⟩ rfl rfl hl.1 rfl (lv_room (Nat.le_of_ble_eq_true rfl)) dX7_lose_16 ⟨Nat.zero_le _, Nat.zero_le _⟩) (fun v52 S51 H locs h hG => ?_)
    refine lv_if_eq (tgt := 26) hx hb dX7_lose_19 (by decide) (fun c53 => ?_) (fun c53 => ?_)
    · have h := h.1 c53
      refine lv_iconst (v := (2 : Int32)) hx hb dX7_lose_26 (by decide +kernel) ?_
      exact b27 S51 a0z x1z x2z x3z a0z (2 : Int32) _ _ ls h hG (lv_sub hl [0, 1, 2, 3] rfl)
    · have h := h.2 c53
      refine lv_iconst (v := (0 : Int32)) hx hb dX7_lose_22 (by decide +kernel) ?_
      refine lv_goto (tgt := 27) hx hb dX7_lose_23 (by decide) ?_
      exact b27 S51 a0z x1z x2z x3z a0z (0 : Int32) _ _ ls h hG (lv_sub hl [0, 1, 2, 3] rfl)
  · have h := h.2 c48
    refine lv_iconst (v := (1 : Int32)) hx hb dX7_lose_8 (by decide +kernel) ?_
    refine lv_goto (tgt := 27) hx hb dX7_lose_9 (by decide) ?_
    exact b27 S46 a0z x1z x2z x3z a0z (1 : Int32) _ _ ls h hG (lv_sub hl [0, 1, 2, 3] rfl)
def wp_X7_repeat_b76 (t0 m9 : Nat) (post : Int32 → qs_S → Prop) (K48 : qs_S → Nat → Int32 → Int32 → Int32 → Prop) (S : qs_S) (a0 : Nat) (x1 : Int32) (x2 : Int32) (x3 : Int32) (r0 : Nat) (s1 : Int32) : Prop := (r0 ∈ qs_L S ∧ qs_K S r0 = 7) ∧ (∀ v3 : Int32, v3 = x3 + 1 → K48 (qs_wI S 0 r0 s1) a0 x1 x2 v3)
def wp_X7_repeat_b85 (t0 m9 : Nat) (post : Int32 → qs_S → Prop) (S : qs_S) (a0 : Nat) (x1 : Int32) (x2 : Int32) : Prop := (a0 ∈ qs_L S ∧ qs_K S a0 = 7) ∧ (∀ v6 : Int32, v6 = qs_I S 0 a0 → (v6 ≤ 0 → (wp_X7_joins t0 m9 (fun (S10 : qs_S) => post x2 S10) S a0 x1 x2)) ∧ (¬ v6 ≤ 0 → (post (0 : Int32) S)))
def wp_X7_repeat_c48 (t0 m9 : Nat) (post : Int32 → qs_S → Prop) (K48 : qs_S → Nat → Int32 → Int32 → Int32 → Prop) (S : qs_S) (a0 : Nat) (x1 : Int32) (x2 : Int32) (x3 : Int32) : Prop := ((8 : Int32) ≤ x3 → (wp_X7_repeat_b85 t0 m9 post S a0 x1 x2)) ∧ (¬ (8 : Int32) ≤ x3 → ((a0 ∈ qs_L S ∧ qs_K S a0 = 7) ∧ (∀ v14 : Int32, v14 = qs_I S 0 a0 → (¬ v14 = 0 → (wp_X7_repeat_b85 t0 m9 post S a0 x1 x2)) ∧ (v14 = 0 → (wp_X7_isIn t0 m9 (fun (v19 : Int32) (S18 : qs_S) => (v19 = 0 → (wp_X7_repeat_b76 t0 m9 post K48 S18 a0 x1 x2 x3 a0 (0 : Int32))) ∧ (¬ v19 = 0 → (wp_X7_repeat_b76 t0 m9 post K48 S18 a0 x1 x2 x3 a0 (2 : Int32)))) S a0 x3 x2)))))
def wp_X7_repeat_b48 (t0 m9 : Nat) (post : Int32 → qs_S → Prop) : Nat → qs_S → Nat → Int32 → Int32 → Int32 → Prop
  | 0 => fun _ _ _ _ _ => False
  | n9 + 1 => wp_X7_repeat_c48 t0 m9 post (wp_X7_repeat_b48 t0 m9 post n9)
def wp_X7_repeat_b43 (t0 m9 : Nat) (post : Int32 → qs_S → Prop) (S : qs_S) (a0 : Nat) (x1 : Int32) (x2 : Int32) (r0 : Nat) (s1 : Int32) : Prop := (r0 ∈ qs_L S ∧ qs_K S r0 = 7) ∧ (∃ n23 : Nat, wp_X7_repeat_b48 t0 m9 post n23 (qs_wI S 0 r0 s1) a0 x1 x2 (0 : Int32))
def wp_X7_repeat_b13 (t0 m9 : Nat) (post : Int32 → qs_S → Prop) (S : qs_S) (a0 : Nat) (x1 : Int32) (r0 : Nat) (s1 : Int32) : Prop := (r0 ∈ qs_L S ∧ qs_K S r0 = 7) ∧ ((a0 ∈ qs_L (qs_wI S 0 r0 s1) ∧ qs_K (qs_wI S 0 r0 s1) a0 = 7) ∧ (∀ v28 : Int32, v28 = qs_I (qs_wI S 0 r0 s1) 0 a0 → (v28 ≤ 0 → (∃ q30 : Nat, qs_R (qs_wI S 0 r0 s1) 33 a0 = some q30 ∧ ((q30 ∈ qs_L (qs_wI S 0 r0 s1) ∧ qs_K (qs_wI S 0 r0 s1) q30 = 8) ∧ (vp_in x1 (qs_Z (qs_wI S 0 r0 s1) q30) ∧ (∀ v34 : Int32, v34 = qs_A (qs_wI S 0 r0 s1) q30 x1.toNatClampNeg → (¬ v34 = (-1 : Int32) → (wp_X7_repeat_b43 t0 m9 post (qs_wI S 0 r0 s1) a0 x1 v34 a0 (0 : Int32))) ∧ (v34 = (-1 : Int32) → (wp_X7_repeat_b43 t0 m9 post (qs_wI S 0 r0 s1) a0 x1 v34 a0 (2 : Int32)))))))) ∧ (¬ v28 ≤ 0 → (post (0 : Int32) (qs_wI S 0 r0 s1)))))
def wp_X7_repeat (t0 m9 : Nat) (post : Int32 → qs_S → Prop) (SA : qs_S) (a0z : Nat) (x1z : Int32) : Prop := wp_X7_isWorker t0 m9 (fun (v39 : Int32) (S38 : qs_S) => (v39 = 0 → (wp_X7_repeat_b13 t0 m9 post S38 a0z x1z a0z (1 : Int32))) ∧ (¬ v39 = 0 → (wp_X7_repeat_b13 t0 m9 post S38 a0z x1z a0z (0 : Int32)))) SA x1z
set_option maxHeartbeats 4000000 in
set_option maxRecDepth 100000 in
theorem c_X7_repeat (l : Launch) (g : qs_G) (sz : Nat) (SA : qs_S) (a0z : Nat) (x1z : Int32) {post : Int32 → qs_S → Prop} (h : wp_X7_repeat g.2.2.2.2.2.2.1 g.2.2.2.2.2.2.2 post SA a0z x1z) : Met l yX7_repeat wsX7_repeat ({ frames := 2, cells := 0, slots := 0, locals := 42 } : Room) (qs_Pc g sz SA [.ref a0z, .int x1z]) (qs_Qi g (qs_F g SA sz) post) 0 0 (qs_F g SA sz) := by
  refine Met.ofW (cc := cX7_repeat) (maxL := 4) (ret := (some .int)) (by decide +kernel) rfl ?_
  intro p e s m args below meth c s₁ B hml hv
  obtain ⟨rfl, hsz, hG⟩ := qs_Gd.start hv
  subst hsz
  have hx := B.exec
  have hb := B.bytes
  have hr := B.returns
  have hts := atoms_spec (ws := wsX7_repeat) B.pre
  have hown : s.vm.findClass RX7 = some m.cls := findClass_of_methodNamed B.named
  have hlk := B.notSynchronized
  have in7 : ∀ w ∈ u_ws RX7 TX7 35, w ∈ wsX7_repeat := fun w h => List.mem_cons_of_mem _ (List.mem_append_right _ (h))
  have b76 : ∀ (K48 : qs_S → Nat → Int32 → Int32 → Int32 → Prop), (∀ (S : qs_S) (a0 : Nat) (x1 : Int32) (x2 : Int32) (x3 : Int32) (H : Heap) (locs : List Loc) (ls : Array Slot), K48 S a0 x1 x2 x3 → qs_Gd g (qs_F g SA s.heap.size) s S H locs → lv_has ls 4 [(0, .ref a0), (1, .int x1), (2, .int x2), (3, .int x3)] → W p l e (headSpec wsX7_repeat ({ frames := 2, cells := 0, slots := 0, locals := 42 } : Room)).room s m (([.ref a0z, .int x1z] : List Value)).toArray below meth c H locs 0 0 (MQ below (qs_Qi g (qs_F g SA s.heap.size) post) (([.ref a0z, .int x1z] : List Value)).toArray s 0 0 (qs_F g SA s.heap.size)) (F0 m 48 ls [])) → ∀ (S : qs_S) (a0 : Nat) (x1 : Int32) (x2 : Int32) (x3 : Int32) (r0 : Nat) (s1 : Int32) (H : Heap) (locs : List Loc) (ls : Array Slot), wp_X7_repeat_b76 g.2.2.2.2.2.2.1 g.2.2.2.2.2.2.2 post K48 S a0 x1 x2 x3 r0 s1 → qs_Gd g (qs_F g SA s.heap.size) s S H locs → lv_has ls 4 [(0, .ref a0), (1, .int x1), (2, .int x2), (3, .int x3)] → W p l e (headSpec wsX7_repeat ({ frames := 2, cells := 0, slots := 0, locals := 42 } : Room)).room s m (([.ref a0z, .int x1z] : List Value)).toArray below meth c H locs 0 0 (MQ below (qs_Qi g (qs_F g SA s.heap.size) post) (([.ref a0z, .int x1z] : List Value)).toArray s 0 0 (qs_F g SA s.heap.size)) (F0 m 76 ls [.int s1, .ref r0]) := by
    intro K48 hK48 S a0 x1 x2 x3 r0 s1 H locs ls h hG hl
    unfold wp_X7_repeat_b76 at h
    obtain ⟨⟨hL1, fK2⟩, h⟩ := h
    refine qr_putI (C := RX7) (T := TX7) (N := 35) (ci := 7) hx hb hts in7 tyX7 tyX7_ok nmX7 hown hG hL1 fK2 (by decide) rfl 0 (by decide) rfl (hts (.fieldLink RX7 95 "QuayMeshModel" "thrown" "I") (List.mem_of_getElem? (i := 1) rfl)) (fun _ h9 => h9) rfl (x := s1) (tyX7_ok 0 (by decide)) rfl rfl dX7_repeat_76 (fun H locs hG => ?_)
    obtain ⟨v3, ev3⟩ : ∃ y : Int32, y = x3 + 1 := ⟨_, rfl⟩
    have h := h v3 ev3
    refine lv_iinc (v := v3) (lv' := [(3, .int v3), (0, .ref a0), (1, .int x1), (2, .int x2)]) hx hb dX7_repeat_79 hl (k := 3) rfl (by rw [ev3]; rfl) (by decide) rfl (fun ls hl => ?_)
    refine lv_goto (tgt := 48) hx hb dX7_repeat_82 (by decide) ?_
    exact hK48 (qs_wI S 0 r0 s1) a0 x1 x2 v3 _ _ ls h hG (lv_sub hl [1, 2, 3, 0] rfl)
  have b85 : ∀ (S : qs_S) (a0 : Nat) (x1 : Int32) (x2 : Int32) (H : Heap) (locs : List Loc) (ls : Array Slot), wp_X7_repeat_b85 g.2.2.2.2.2.2.1 g.2.2.2.2.2.2.2 post S a0 x1 x2 → qs_Gd g (qs_F g SA s.heap.size) s S H locs → lv_has ls 4 [(0, .ref a0), (1, .int x1), (2, .int x2)] → W p l e (headSpec wsX7_repeat ({ frames := 2, cells := 0, slots := 0, locals := 42 } : Room)).room s m (([.ref a0z, .int x1z] : List Value)).toArray below meth c H locs 0 0 (MQ below (qs_Qi g (qs_F g SA s.heap.size) post) (([.ref a0z, .int x1z] : List Value)).toArray s 0 0 (qs_F g SA s.heap.size)) (F0 m 85 ls []) := by
    intro S a0 x1 x2 H locs ls h hG hl
    unfold wp_X7_repeat_b85 at h
    refine lv_aload_n hx hb dX7_repeat_85 rfl (lv_at hl 0 rfl) ?_
    obtain ⟨⟨hL4, fK5⟩, h⟩ := h
    refine qr_get (C := RX7) (T := TX7) (N := 35) (ci := 7) hx hb hts in7 hown hG hL4 fK5 (by decide) rfl 0 (by decide) rfl (hts (.fieldLink RX7 95 "QuayMeshModel" "thrown" "I") (List.mem_of_getElem? (i := 1) rfl)) (fun _ h9 => h9) (v := .int (qs_I S 0 a0)) rfl dX7_repeat_86 ?_
    refine lv_topi (fun v6 ev6 => ?_)
    have h := h v6 ev6
    refine lv_if_le (tgt := 94) hx hb dX7_repeat_89 (by decide) (fun c7 => ?_) (fun c7 => ?_)
    · have h := h.1 c7
      refine lv_aload_n hx hb dX7_repeat_94 rfl (lv_at hl 0 rfl) ?_
      refine lv_iload_n hx hb dX7_repeat_95 rfl (lv_at hl 1 rfl) ?_
      refine lv_iload_n hx hb dX7_repeat_96 rfl (lv_at hl 2 rfl) ?_
      refine qc_v hG (va_runV (As := [.int x1, .int x2]) (rest := []) ⟨hx, hb, hml, hown, hts⟩ (c_X7_joins l g _ S a0 x1 x2 h) (cwV 2 hts gX7_repeat_X7_joins rfl rfl rfl (by decide +kernel) ⟨(Nat.le_of_ble_eq_true rfl), (Nat.le_of_ble_eq_true rfl)⟩) ⟨qs_Pc.blind _ _ _ _, hG.recv hL4 fK5 (by decide) rfl, hG.pre _⟩ rfl rfl hl.1 rfl (lv_room (Nat.le_of_ble_eq_true rfl)) dX7_repeat_97 ⟨Nat.zero_le _, Nat.zero_le _⟩) (fun S10 H locs h hG => ?_)
      refine lv_iload_n hx hb dX7_repeat_100 rfl (lv_at hl 2 rfl) ?_
      exact qe_i hx hb hr hlk hG h (Nat.le_refl _) (Nat.le_refl _) dX7_repeat_101
    · have h := h.2 c7
      refine lv_iconst (v := (0 : Int32)) hx hb dX7_repeat_92 (by decide +kernel) ?_
      exact qe_i hx hb hr hlk hG h (Nat.le_refl _) (Nat.le_refl _) dX7_repeat_93
  have c48 : ∀ (K48 : qs_S → Nat → Int32 → Int32 → Int32 → Prop), (∀ (S : qs_S) (a0 : Nat) (x1 : Int32) (x2 : Int32) (x3 : Int32) (H : Heap) (locs : List Loc) (ls : Array Slot), K48 S a0 x1 x2 x3 → qs_Gd g (qs_F g SA s.heap.size) s S H locs → lv_has ls 4 [(0, .ref a0), (1, .int x1), (2, .int x2), (3, .int x3)] → W p l e (headSpec wsX7_repeat ({ frames := 2, cells := 0, slots := 0, locals := 42 } : Room)).room s m (([.ref a0z, .int x1z] : List Value)).toArray below meth c H locs 0 0 (MQ below (qs_Qi g (qs_F g SA s.heap.size) post) (([.ref a0z, .int x1z] : List Value)).toArray s 0 0 (qs_F g SA s.heap.size)) (F0 m 48 ls [])) → ∀ (S : qs_S) (a0 : Nat) (x1 : Int32) (x2 : Int32) (x3 : Int32) (H : Heap) (locs : List Loc) (ls : Array Slot), wp_X7_repeat_c48 g.2.2.2.2.2.2.1 g.2.2.2.2.2.2.2 post K48 S a0 x1 x2 x3 → qs_Gd g (qs_F g SA s.heap.size) s S H locs → lv_has ls 4 [(0, .ref a0), (1, .int x1), (2, .int x2), (3, .int x3)] → W p l e (headSpec wsX7_repeat ({ frames := 2, cells := 0, slots := 0, locals := 42 } : Room)).room s m (([.ref a0z, .int x1z] : List Value)).toArray below meth c H locs 0 0 (MQ below (qs_Qi g (qs_F g SA s.heap.size) post) (([.ref a0z, .int x1z] : List Value)).toArray s 0 0 (qs_F g SA s.heap.size)) (F0 m 48 ls []) := by
    intro K48 hK48 S a0 x1 x2 x3 H locs ls h hG hl
    unfold wp_X7_repeat_c48 at h
    refine lv_iload_n hx hb dX7_repeat_48 rfl (lv_at hl 3 rfl) ?_
    refine lv_bipush (v := (8 : Int32)) hx hb dX7_repeat_49 (by decide +kernel) ?_
    refine lv_icmp_ge (tgt := 85) hx hb dX7_repeat_51 (by decide) (fun c11 => ?_) (fun c11 => ?_)
    · have h := h.1 c11
      exact b85 S a0 x1 x2 _ _ ls h hG (lv_sub hl [0, 1, 2] rfl)
    · have h := h.2 c11
      refine lv_aload_n hx hb dX7_repeat_54 rfl (lv_at hl 0 rfl) ?_
      obtain ⟨⟨hL12, fK13⟩, h⟩ := h
      refine qr_get (C := RX7) (T := TX7) (N := 35) (ci := 7) hx hb hts in7 hown hG hL12 fK13 (by decide) rfl 0 (by decide) rfl (hts (.fieldLink RX7 95 "QuayMeshModel" "thrown" "I") (List.mem_of_getElem? (i := 1) rfl)) (fun _ h9 => h9) (v := .int (qs_I S 0 a0)) rfl dX7_repeat_55 ?_
      refine lv_topi (fun v14 ev14 => ?_)
      have h := h v14 ev14
      refine lv_if_ne (tgt := 85) hx hb dX7_repeat_58 (by decide) (fun c15 => ?_) (fun c15 => ?_)
      · have h := h.1 c15
        exact b85 S a0 x1 x2 _ _ ls h hG (lv_sub hl [0, 1, 2] rfl)
      · have h := h.2 c15
        refine lv_aload_n hx hb dX7_repeat_61 rfl (lv_at hl 0 rfl) ?_
        refine lv_aload_n hx hb dX7_repeat_62 rfl (lv_at hl 0 rfl) ?_
        refine lv_iload_n hx hb dX7_repeat_63 rfl (lv_at hl 3 rfl) ?_
        refine lv_iload_n hx hb dX7_repeat_64 rfl (lv_at hl 2 rfl) ?_
        refine qc_i hG (va_runV (As := [.int x3, .int x2]) (rest := [.ref a0]) ⟨hx, hb, hml, hown, hts⟩ (c_X7_isIn l g _ S a0 x3 x2 h) (cwV 2 hts gX7_repeat_X7_isIn rfl rfl rfl (by decide +kernel) ⟨(Nat.le_of_ble_eq_true rfl), (Nat.le_of_ble_eq_true rfl)⟩) ⟨qs_Pc.blind _ _ _ _, hG.recv hL12 fK13 (by decide) rfl, hG.pre _⟩ rfl rfl hl.1 rfl (lv_room (Nat.le_of_ble_eq_true rfl)) dX7_repeat_65 ⟨Nat.zero_le _, Nat.zero_le _⟩) (fun v19 S18 H locs h hG => ?_)
        refine lv_if_eq (tgt := 75) hx hb dX7_repeat_68 (by decide) (fun c20 => ?_) (fun c20 => ?_)
        · have h := h.1 c20
          refine lv_iconst (v := (0 : Int32)) hx hb dX7_repeat_75 (by decide +kernel) ?_
          exact b76 K48 hK48 S18 a0 x1 x2 x3 a0 (0 : Int32) _ _ ls h hG (lv_sub hl [0, 1, 2, 3] rfl)
        · have h := h.2 c20
          refine lv_iconst (v := (2 : Int32)) hx hb dX7_repeat_71 (by decide +kernel) ?_
          refine lv_goto (tgt := 76) hx hb dX7_repeat_72 (by decide) ?_
          exact b76 K48 hK48 S18 a0 x1 x2 x3 a0 (2 : Int32) _ _ ls h hG (lv_sub hl [0, 1, 2, 3] rfl)
  have b48 : ∀ n9 : Nat, ∀ (S : qs_S) (a0 : Nat) (x1 : Int32) (x2 : Int32) (x3 : Int32) (H : Heap) (locs : List Loc) (ls : Array Slot), wp_X7_repeat_b48 g.2.2.2.2.2.2.1 g.2.2.2.2.2.2.2 post n9 S a0 x1 x2 x3 → qs_Gd g (qs_F g SA s.heap.size) s S H locs → lv_has ls 4 [(0, .ref a0), (1, .int x1), (2, .int x2), (3, .int x3)] → W p l e (headSpec wsX7_repeat ({ frames := 2, cells := 0, slots := 0, locals := 42 } : Room)).room s m (([.ref a0z, .int x1z] : List Value)).toArray below meth c H locs 0 0 (MQ below (qs_Qi g (qs_F g SA s.heap.size) post) (([.ref a0z, .int x1z] : List Value)).toArray s 0 0 (qs_F g SA s.heap.size)) (F0 m 48 ls []) := by
    intro n9
    induction n9 with
    | zero =>
      intro S a0 x1 x2 x3 H locs ls h hG hl
      exact False.elim h
    | succ n9 ih => exact c48 _ ih
  have b43 : ∀ (S : qs_S) (a0 : Nat) (x1 : Int32) (x2 : Int32) (r0 : Nat) (s1 : Int32) (H : Heap) (locs : List Loc) (ls : Array Slot), wp_X7_repeat_b43 g.2.2.2.2.2.2.1 g.2.2.2.2.2.2.2 post S a0 x1 x2 r0 s1 → qs_Gd g (qs_F g SA s.heap.size) s S H locs → lv_has ls 4 [(0, .ref a0), (1, .int x1), (2, .int x2)] → W p l e (headSpec wsX7_repeat ({ frames := 2, cells := 0, slots := 0, locals := 42 } : Room)).room s m (([.ref a0z, .int x1z] : List Value)).toArray below meth c H locs 0 0 (MQ below (qs_Qi g (qs_F g SA s.heap.size) post) (([.ref a0z, .int x1z] : List Value)).toArray s 0 0 (qs_F g SA s.heap.size)) (F0 m 43 ls [.int s1, .ref r0]) := by
    intro S a0 x1 x2 r0 s1 H locs ls h hG hl
    unfold wp_X7_repeat_b43 at h
    obtain ⟨⟨hL21, fK22⟩, h⟩ := h
    refine qr_putI (C := RX7) (T := TX7) (N := 35) (ci := 7) hx hb hts in7 tyX7 tyX7_ok nmX7 hown hG hL21 fK22 (by decide) rfl 0 (by decide) rfl (hts (.fieldLink RX7 95 "QuayMeshModel" "thrown" "I") (List.mem_of_getElem? (i := 1) rfl)) (fun _ h9 => h9) rfl (x := s1) (tyX7_ok 0 (by decide)) rfl rfl dX7_repeat_43 (fun H locs hG => ?_)
    refine lv_iconst (v := (0 : Int32)) hx hb dX7_repeat_46 (by decide +kernel) ?_
    refine lv_istore_n (lv' := [(3, .int (0 : Int32)), (0, .ref a0), (1, .int x1), (2, .int x2)]) hx hb dX7_repeat_47 rfl hl (by decide) rfl (fun ls hl => ?_)
    obtain ⟨n23, h⟩ := h
    exact b48 n23 (qs_wI S 0 r0 s1) a0 x1 x2 (0 : Int32) _ _ ls h hG (lv_sub hl [1, 2, 3, 0] rfl)
  have b13 : ∀ (S : qs_S) (a0 : Nat) (x1 : Int32) (r0 : Nat) (s1 : Int32) (H : Heap) (locs : List Loc) (ls : Array Slot), wp_X7_repeat_b13 g.2.2.2.2.2.2.1 g.2.2.2.2.2.2.2 post S a0 x1 r0 s1 → qs_Gd g (qs_F g SA s.heap.size) s S H locs → lv_has ls 4 [(0, .ref a0), (1, .int x1)] → W p l e (headSpec wsX7_repeat ({ frames := 2, cells := 0, slots := 0, locals := 42 } : Room)).room s m (([.ref a0z, .int x1z] : List Value)).toArray below meth c H locs 0 0 (MQ below (qs_Qi g (qs_F g SA s.heap.size) post) (([.ref a0z, .int x1z] : List Value)).toArray s 0 0 (qs_F g SA s.heap.size)) (F0 m 13 ls [.int s1, .ref r0]) := by
    intro S a0 x1 r0 s1 H locs ls h hG hl
    unfold wp_X7_repeat_b13 at h
    obtain ⟨⟨hL24, fK25⟩, h⟩ := h
    refine qr_putI (C := RX7) (T := TX7) (N := 35) (ci := 7) hx hb hts in7 tyX7 tyX7_ok nmX7 hown hG hL24 fK25 (by decide) rfl 0 (by decide) rfl (hts (.fieldLink RX7 95 "QuayMeshModel" "thrown" "I") (List.mem_of_getElem? (i := 1) rfl)) (fun _ h9 => h9) rfl (x := s1) (tyX7_ok 0 (by decide)) rfl rfl dX7_repeat_13 (fun H locs hG => ?_)
    refine lv_aload_n hx hb dX7_repeat_16 rfl (lv_at hl 0 rfl) ?_
    obtain ⟨⟨hL26, fK27⟩, h⟩ := h
    refine qr_get (C := RX7) (T := TX7) (N := 35) (ci := 7) hx hb hts in7 hown hG hL26 fK27 (by decide) rfl 0 (by decide) rfl (hts (.fieldLink RX7 95 "QuayMeshModel" "thrown" "I") (List.mem_of_getElem? (i := 1) rfl)) (fun _ h9 => h9) (v := .int (qs_I (qs_wI S 0 r0 s1) 0 a0)) rfl dX7_repeat_17 ?_
    refine lv_topi (fun v28 ev28 => ?_)
    have h := h v28 ev28
    refine lv_if_le (tgt := 25) hx hb dX7_repeat_20 (by decide) (fun c29 => ?_) (fun c29 => ?_)
    · have h := h.1 c29
      refine lv_aload_n hx hb dX7_repeat_25 rfl (lv_at hl 0 rfl) ?_
      obtain ⟨q30, eq30, h⟩ := h
      refine qr_get (C := RX7) (T := TX7) (N := 35) (ci := 7) hx hb hts in7 hown hG hL26 fK27 (by decide) rfl 33 (by decide) rfl (hts (.fieldLink RX7 89 "QuayMeshModel" "lastHeard" "[I") (List.mem_of_getElem? (i := 2) rfl)) (fun _ h9 => h9) (v := .ref q30) (qs_rf eq30) dX7_repeat_26 ?_
      refine lv_iload_n hx hb dX7_repeat_29 rfl (lv_at hl 1 rfl) ?_
      obtain ⟨⟨hL31, fK32⟩, h⟩ := h
      obtain ⟨hi33, h⟩ := h
      refine qr_iald hx hb hG hL31 fK32 hi33 rfl dX7_repeat_30 ?_
      refine lv_topi (fun v34 ev34 => ?_)
      have h := h v34 ev34
      refine lv_istore_n (lv' := [(2, .int v34), (0, .ref a0), (1, .int x1)]) hx hb dX7_repeat_31 rfl hl (by decide) rfl (fun ls hl => ?_)
      refine lv_aload_n hx hb dX7_repeat_32 rfl (lv_at hl 1 rfl) ?_
      refine lv_iload_n hx hb dX7_repeat_33 rfl (lv_at hl 0 rfl) ?_
      refine lv_iconst (v := (-1 : Int32)) hx hb dX7_repeat_34 (by decide +kernel) ?_
      refine lv_icmp_ne (tgt := 42) hx hb dX7_repeat_35 (by decide) (fun c35 => ?_) (fun c35 => ?_)
      · have h := h.1 c35
        refine lv_iconst (v := (0 : Int32)) hx hb dX7_repeat_42 (by decide +kernel) ?_
        exact b43 (qs_wI S 0 r0 s1) a0 x1 v34 a0 (0 : Int32) _ _ ls h hG (lv_sub hl [1, 2, 0] rfl)
      · have h := h.2 c35
        refine lv_iconst (v := (2 : Int32)) hx hb dX7_repeat_38 (by decide +kernel) ?_
        refine lv_goto (tgt := 43) hx hb dX7_repeat_39 (by decide) ?_
        exact b43 (qs_wI S 0 r0 s1) a0 x1 v34 a0 (2 : Int32) _ _ ls h hG (lv_sub hl [1, 2, 0] rfl)
    · have h := h.2 c29
      refine lv_iconst (v := (0 : Int32)) hx hb dX7_repeat_23 (by decide +kernel) ?_
      exact qe_i hx hb hr hlk hG h (Nat.le_refl _) (Nat.le_refl _) dX7_repeat_24
  have hl := lv_entry ([.ref a0z, .int x1z]) (n := 4) (Nat.le_of_ble_eq_true rfl)
  rw [lg_entry_eq]
  generalize (lg_sl ([.ref a0z, .int x1z]) ++ List.replicate (4 - (lg_sl ([.ref a0z, .int x1z])).length) Slot.unset).toArray = ls at hl ⊢
  have hl : lv_has ls 4 [(0, .ref a0z), (1, .int x1z)] := hl
  unfold wp_X7_repeat at h
  refine lv_aload_n hx hb dX7_repeat_0 rfl (lv_at hl 0 rfl) ?_
  refine lv_iload_n hx hb dX7_repeat_1 rfl (lv_at hl 1 rfl) ?_
  refine qc_i hG (va_runS (As := [.int x1z]) (rest := [.ref a0z]) ⟨hx, hb, hml, hown, hts⟩ (c_X7_isWorker l g _ SA x1z h) (va_cwS 1 hts gX7_repeat_X7_isWorker rfl rfl rfl (by decide +kernel) ⟨(Nat.le_of_ble_eq_true rfl), (Nat.le_of_ble_eq_true rfl)⟩) ⟨qs_Pc.blind _ _ _ _, hG.pre _⟩ rfl rfl hl.1 rfl (lv_room (Nat.le_of_ble_eq_true rfl)) dX7_repeat_2 ⟨Nat.zero_le _, Nat.zero_le _⟩) (fun v39 S38 H locs h hG => ?_)
  refine lv_if_eq (tgt := 12) hx hb dX7_repeat_5 (by decide) (fun c40 => ?_) (fun c40 => ?_)
  · have h := h.1 c40
    refine lv_iconst (v := (1 : Int32)) hx hb dX7_repeat_12 (by decide +kernel) ?_
    exact b13 S38 a0z x1z a0z (1 : Int32) _ _ ls h hG (lv_sub hl [0, 1] rfl)
  · have h := h.2 c40
    refine lv_iconst (v := (0 : Int32)) hx hb dX7_repeat_8 (by decide +kernel) ?_
    refine lv_goto (tgt := 13) hx hb dX7_repeat_9 (by decide) ?_
    exact b13 S38 a0z x1z a0z (0 : Int32) _ _ ls h hG (lv_sub hl [0, 1] rfl)
def wp_X7_silence_b13 (t0 m9 : Nat) (post : Int32 → qs_S → Prop) (S : qs_S) (a0 : Nat) (x1 : Int32) (x2 : Int32) (r0 : Nat) (s1 : Int32) : Prop := (r0 ∈ qs_L S ∧ qs_K S r0 = 7) ∧ ((a0 ∈ qs_L (qs_wI S 0 r0 s1) ∧ qs_K (qs_wI S 0 r0 s1) a0 = 7) ∧ (∀ v5 : Int32, v5 = qs_I (qs_wI S 0 r0 s1) 0 a0 → (v5 ≤ 0 → (∃ q7 : Nat, qs_R (qs_wI S 0 r0 s1) 17 a0 = some q7 ∧ ((q7 ∈ qs_L (qs_wI S 0 r0 s1) ∧ qs_K (qs_wI S 0 r0 s1) q7 = 9) ∧ (vp_in x1 (qs_Z (qs_wI S 0 r0 s1) q7) ∧ (∀ v11 : Int32, v11 = qs_A (qs_wI S 0 r0 s1) q7 x1.toNatClampNeg → ∃ q12 : Nat, qs_R (qs_wI S 0 r0 s1) 17 a0 = some q12 ∧ ((q12 ∈ qs_L (qs_wI S 0 r0 s1) ∧ qs_K (qs_wI S 0 r0 s1) q12 = 9) ∧ (vp_in x1 (qs_Z (qs_wI S 0 r0 s1) q12) ∧ ((x2 = 0 ∨ x2 = 1) ∧ ((v11 = 0 ∨ v11 = 1) ∧ post v11 (qs_wA (qs_wI S 0 r0 s1) q12 x1.toNatClampNeg x2)))))))))) ∧ (¬ v5 ≤ 0 → (post (0 : Int32) (qs_wI S 0 r0 s1)))))
def wp_X7_silence (t0 m9 : Nat) (post : Int32 → qs_S → Prop) (SA : qs_S) (a0z : Nat) (x1z : Int32) (x2z : Int32) : Prop := wp_X7_isCrane t0 m9 (fun (v21 : Int32) (S20 : qs_S) => (v21 = 0 → (wp_X7_silence_b13 t0 m9 post S20 a0z x1z x2z a0z (1 : Int32))) ∧ (¬ v21 = 0 → (wp_X7_silence_b13 t0 m9 post S20 a0z x1z x2z a0z (0 : Int32)))) SA x1z
set_option maxHeartbeats 4000000 in
set_option maxRecDepth 100000 in
theorem c_X7_silence (l : Launch) (g : qs_G) (sz : Nat) (SA : qs_S) (a0z : Nat) (x1z : Int32) (x2z : Int32) {post : Int32 → qs_S → Prop} (h : wp_X7_silence g.2.2.2.2.2.2.1 g.2.2.2.2.2.2.2 post SA a0z x1z x2z) : Met l yX7_silence wsX7_silence ({ frames := 2, cells := 0, slots := 0, locals := 42 } : Room) (qs_Pc g sz SA [.ref a0z, .int x1z, .int x2z]) (qs_Qi g (qs_F g SA sz) post) 0 0 (qs_F g SA sz) := by
  refine Met.ofW (cc := cX7_silence) (maxL := 4) (ret := (some .boolean)) (by decide +kernel) rfl ?_
  intro p e s m args below meth c s₁ B hml hv
  obtain ⟨rfl, hsz, hG⟩ := qs_Gd.start hv
  subst hsz
  have hx := B.exec
  have hb := B.bytes
  have hr := B.returns
  have hts := atoms_spec (ws := wsX7_silence) B.pre
  have hown : s.vm.findClass RX7 = some m.cls := findClass_of_methodNamed B.named
  have hlk := B.notSynchronized
  have in7 : ∀ w ∈ u_ws RX7 TX7 35, w ∈ wsX7_silence := fun w h => List.mem_cons_of_mem _ (List.mem_append_right _ (h))
  have b13 : ∀ (S : qs_S) (a0 : Nat) (x1 : Int32) (x2 : Int32) (r0 : Nat) (s1 : Int32) (H : Heap) (locs : List Loc) (ls : Array Slot), wp_X7_silence_b13 g.2.2.2.2.2.2.1 g.2.2.2.2.2.2.2 post S a0 x1 x2 r0 s1 → qs_Gd g (qs_F g SA s.heap.size) s S H locs → lv_has ls 4 [(0, .ref a0), (1, .int x1), (2, .int x2)] → W p l e (headSpec wsX7_silence ({ frames := 2, cells := 0, slots := 0, locals := 42 } : Room)).room s m (([.ref a0z, .int x1z, .int x2z] : List Value)).toArray below meth c H locs 0 0 (MQ below (qs_Qi g (qs_F g SA s.heap.size) post) (([.ref a0z, .int x1z, .int x2z] : List Value)).toArray s 0 0 (qs_F g SA s.heap.size)) (F0 m 13 ls [.int s1, .ref r0]) := by
    intro S a0 x1 x2 r0 s1 H locs ls h hG hl
    unfold wp_X7_silence_b13 at h
    obtain ⟨⟨hL1, fK2⟩, h⟩ := h
    refine qr_putI (C := RX7) (T := TX7) (N := 35) (ci := 7) hx hb hts in7 tyX7 tyX7_ok nmX7 hown hG hL1 fK2 (by decide) rfl 0 (by decide) rfl (hts (.fieldLink RX7 95 "QuayMeshModel" "thrown" "I") (List.mem_of_getElem? (i := 1) rfl)) (fun _ h9 => h9) rfl (x := s1) (tyX7_ok 0 (by decide)) rfl rfl dX7_silence_13 (fun H locs hG => ?_)
    refine lv_aload_n hx hb dX7_silence_16 rfl (lv_at hl 0 rfl) ?_
    obtain ⟨⟨hL3, fK4⟩, h⟩ := h
    refine qr_get (C := RX7) (T := TX7) (N := 35) (ci := 7) hx hb hts in7 hown hG hL3 fK4 (by decide) rfl 0 (by decide) rfl (hts (.fieldLink RX7 95 "QuayMeshModel" "thrown" "I") (List.mem_of_getElem? (i := 1) rfl)) (fun _ h9 => h9) (v := .int (qs_I (qs_wI S 0 r0 s1) 0 a0)) rfl dX7_silence_17 ?_
    refine lv_topi (fun v5 ev5 => ?_)
    have h := h v5 ev5
    refine lv_if_le (tgt := 25) hx hb dX7_silence_20 (by decide) (fun c6 => ?_) (fun c6 => ?_)
    · have h := h.1 c6
      refine lv_aload_n hx hb dX7_silence_25 rfl (lv_at hl 0 rfl) ?_
      obtain ⟨q7, eq7, h⟩ := h
      refine qr_get (C := RX7) (T := TX7) (N := 35) (ci := 7) hx hb hts in7 hown hG hL3 fK4 (by decide) rfl 17 (by decide) rfl (hts (.fieldLink RX7 50 "QuayMeshModel" "isSilent" "[Z") (List.mem_of_getElem? (i := 2) rfl)) (fun _ h9 => h9) (v := .ref q7) (qs_rf eq7) dX7_silence_26 ?_
      refine lv_iload_n hx hb dX7_silence_29 rfl (lv_at hl 1 rfl) ?_
      obtain ⟨⟨hL8, fK9⟩, h⟩ := h
      obtain ⟨hi10, h⟩ := h
      refine qr_zald hx hb hG hL8 fK9 hi10 rfl dX7_silence_30 ?_
      refine lv_topi (fun v11 ev11 => ?_)
      have h := h v11 ev11
      refine lv_istore_n (lv' := [(3, .int v11), (0, .ref a0), (1, .int x1), (2, .int x2)]) hx hb dX7_silence_31 rfl hl (by decide) rfl (fun ls hl => ?_)
      refine lv_aload_n hx hb dX7_silence_32 rfl (lv_at hl 1 rfl) ?_
      obtain ⟨q12, eq12, h⟩ := h
      refine qr_get (C := RX7) (T := TX7) (N := 35) (ci := 7) hx hb hts in7 hown hG hL3 fK4 (by decide) rfl 17 (by decide) rfl (hts (.fieldLink RX7 50 "QuayMeshModel" "isSilent" "[Z") (List.mem_of_getElem? (i := 2) rfl)) (fun _ h9 => h9) (v := .ref q12) (qs_rf eq12) dX7_silence_33 ?_
      refine lv_iload_n hx hb dX7_silence_36 rfl (lv_at hl 2 rfl) ?_
      refine lv_iload_n hx hb dX7_silence_37 rfl (lv_at hl 3 rfl) ?_
      obtain ⟨⟨hL13, fK14⟩, h⟩ := h
      obtain ⟨hi15, h⟩ := h
      obtain ⟨z16, h⟩ := h
      refine qr_zast hx hb hG hL13 fK14 hi15 z16 dX7_silence_38 (fun H locs hG => ?_)
      refine lv_iload_n hx hb dX7_silence_39 rfl (lv_at hl 0 rfl) ?_
      obtain ⟨z17, h⟩ := h
      exact qe_z hx hb hr hlk z17 hG h (Nat.le_refl _) (Nat.le_refl _) dX7_silence_40
    · have h := h.2 c6
      refine lv_iconst (v := (0 : Int32)) hx hb dX7_silence_23 (by decide +kernel) ?_
      exact qe_z hx hb hr hlk (Or.inl rfl) hG h (Nat.le_refl _) (Nat.le_refl _) dX7_silence_24
  have hl := lv_entry ([.ref a0z, .int x1z, .int x2z]) (n := 4) (Nat.le_of_ble_eq_true rfl)
  rw [lg_entry_eq]
  generalize (lg_sl ([.ref a0z, .int x1z, .int x2z]) ++ List.replicate (4 - (lg_sl ([.ref a0z, .int x1z, .int x2z])).length) Slot.unset).toArray = ls at hl ⊢
  have hl : lv_has ls 4 [(0, .ref a0z), (1, .int x1z), (2, .int x2z)] := hl
  unfold wp_X7_silence at h
  refine lv_aload_n hx hb dX7_silence_0 rfl (lv_at hl 0 rfl) ?_
  refine lv_iload_n hx hb dX7_silence_1 rfl (lv_at hl 1 rfl) ?_
  refine qc_i hG (va_runS (As := [.int x1z]) (rest := [.ref a0z]) ⟨hx, hb, hml, hown, hts⟩ (c_X7_isCrane l g _ SA x1z h) (va_cwS 1 hts gX7_silence_X7_isCrane rfl rfl rfl (by decide +kernel) ⟨(Nat.le_of_ble_eq_true rfl), (Nat.le_of_ble_eq_true rfl)⟩) ⟨qs_Pc.blind _ _ _ _, hG.pre _⟩ rfl rfl hl.1 rfl (lv_room (Nat.le_of_ble_eq_true rfl)) dX7_silence_2 ⟨Nat.zero_le _, Nat.zero_le _⟩) (fun v21 S20 H locs h hG => ?_)
  refine lv_if_eq (tgt := 12) hx hb dX7_silence_5 (by decide) (fun c22 => ?_) (fun c22 => ?_)
  · have h := h.1 c22
    refine lv_iconst (v := (1 : Int32)) hx hb dX7_silence_12 (by decide +kernel) ?_
    exact b13 S20 a0z x1z x2z a0z (1 : Int32) _ _ ls h hG (lv_sub hl [0, 1, 2] rfl)
  · have h := h.2 c22
    refine lv_iconst (v := (0 : Int32)) hx hb dX7_silence_8 (by decide +kernel) ?_
    refine lv_goto (tgt := 13) hx hb dX7_silence_9 (by decide) ?_
    exact b13 S20 a0z x1z x2z a0z (0 : Int32) _ _ ls h hG (lv_sub hl [0, 1, 2] rfl)
def wp_X7_giveAway_c60 (t0 m9 : Nat) (post : Int32 → qs_S → Prop) (K60 : qs_S → Nat → Int32 → Int32 → Int32 → Int32 → Prop) (S : qs_S) (a0 : Nat) (x1 : Int32) (x2 : Int32) (x3 : Int32) (x4 : Int32) : Prop := (x3 ≤ x4 → ((a0 ∈ qs_L S ∧ qs_K S a0 = 7) ∧ (∃ q4 : Nat, qs_R S 29 a0 = some q4 ∧ ((q4 ∈ qs_L S ∧ qs_K S q4 = 8) ∧ (vp_in x1 (qs_Z S q4) ∧ (post x3 (qs_wA S q4 x1.toNatClampNeg (0 : Int32)))))))) ∧ (¬ x3 ≤ x4 → ((a0 ∈ qs_L S ∧ qs_K S a0 = 7) ∧ (∃ q10 : Nat, qs_R S 30 a0 = some q10 ∧ (∀ v11 : Int32, v11 = (80 : Int32) * x1 → ∀ v12 : Int32, v12 = v11 + x4 → (q10 ∈ qs_L S ∧ qs_K S q10 = 8) ∧ (vp_in v12 (qs_Z S q10) ∧ (∀ v16 : Int32, v16 = qs_A S q10 v12.toNatClampNeg → wp_X7_joins t0 m9 (fun (S19 : qs_S) => ∀ v20 : Int32, v20 = x4 + 1 → K60 S19 a0 x1 x2 x3 v20) S a0 x2 v16))))))
def wp_X7_giveAway_b60 (t0 m9 : Nat) (post : Int32 → qs_S → Prop) : Nat → qs_S → Nat → Int32 → Int32 → Int32 → Int32 → Prop
  | 0 => fun _ _ _ _ _ _ => False
  | n9 + 1 => wp_X7_giveAway_c60 t0 m9 post (wp_X7_giveAway_b60 t0 m9 post n9)
def wp_X7_giveAway_b38 (t0 m9 : Nat) (post : Int32 → qs_S → Prop) (S : qs_S) (a0 : Nat) (x1 : Int32) (x2 : Int32) (r0 : Nat) (s1 : Int32) : Prop := (r0 ∈ qs_L S ∧ qs_K S r0 = 7) ∧ ((a0 ∈ qs_L (qs_wI S 0 r0 s1) ∧ qs_K (qs_wI S 0 r0 s1) a0 = 7) ∧ (∀ v25 : Int32, v25 = qs_I (qs_wI S 0 r0 s1) 0 a0 → (v25 ≤ 0 → (∃ q27 : Nat, qs_R (qs_wI S 0 r0 s1) 29 a0 = some q27 ∧ ((q27 ∈ qs_L (qs_wI S 0 r0 s1) ∧ qs_K (qs_wI S 0 r0 s1) q27 = 8) ∧ (vp_in x1 (qs_Z (qs_wI S 0 r0 s1) q27) ∧ (∀ v31 : Int32, v31 = qs_A (qs_wI S 0 r0 s1) q27 x1.toNatClampNeg → ∃ n32 : Nat, wp_X7_giveAway_b60 t0 m9 post n32 (qs_wI S 0 r0 s1) a0 x1 x2 v31 (0 : Int32)))))) ∧ (¬ v25 ≤ 0 → (post (0 : Int32) (qs_wI S 0 r0 s1)))))
def wp_X7_giveAway_b15 (t0 m9 : Nat) (post : Int32 → qs_S → Prop) (S : qs_S) (a0 : Nat) (x1 : Int32) (x2 : Int32) (r0 : Nat) : Prop := wp_X7_giveAway_b38 t0 m9 post S a0 x1 x2 r0 (1 : Int32)
def wp_X7_giveAway_b33 (t0 m9 : Nat) (post : Int32 → qs_S → Prop) (S : qs_S) (a0 : Nat) (x1 : Int32) (x2 : Int32) (r0 : Nat) : Prop := wp_X7_giveAway_b38 t0 m9 post S a0 x1 x2 r0 (2 : Int32)
def wp_X7_giveAway (t0 m9 : Nat) (post : Int32 → qs_S → Prop) (SA : qs_S) (a0z : Nat) (x1z : Int32) (x2z : Int32) : Prop := wp_X7_isCrane t0 m9 (fun (v36 : Int32) (S35 : qs_S) => (v36 = 0 → (wp_X7_giveAway_b15 t0 m9 post S35 a0z x1z x2z a0z)) ∧ (¬ v36 = 0 → (wp_X7_isCrane t0 m9 (fun (v41 : Int32) (S40 : qs_S) => (¬ v41 = 0 → ((a0z ∈ qs_L S40 ∧ qs_K S40 a0z = 7) ∧ (∃ q45 : Nat, qs_R S40 17 a0z = some q45 ∧ ((q45 ∈ qs_L S40 ∧ qs_K S40 q45 = 9) ∧ (vp_in x1z (qs_Z S40 q45) ∧ (∀ v49 : Int32, v49 = qs_A S40 q45 x1z.toNatClampNeg → (v49 = 0 → (wp_X7_giveAway_b33 t0 m9 post S40 a0z x1z x2z a0z)) ∧ (¬ v49 = 0 → ((¬ x1z = x2z → (wp_X7_giveAway_b38 t0 m9 post S40 a0z x1z x2z a0z (0 : Int32))) ∧ (x1z = x2z → (wp_X7_giveAway_b33 t0 m9 post S40 a0z x1z x2z a0z)))))))))) ∧ (v41 = 0 → (wp_X7_giveAway_b15 t0 m9 post S40 a0z x1z x2z a0z))) S35 x2z))) SA x1z
set_option maxHeartbeats 4000000 in
set_option maxRecDepth 100000 in
theorem c_X7_giveAway (l : Launch) (g : qs_G) (sz : Nat) (SA : qs_S) (a0z : Nat) (x1z : Int32) (x2z : Int32) {post : Int32 → qs_S → Prop} (h : wp_X7_giveAway g.2.2.2.2.2.2.1 g.2.2.2.2.2.2.2 post SA a0z x1z x2z) : Met l yX7_giveAway wsX7_giveAway ({ frames := 2, cells := 0, slots := 0, locals := 42 } : Room) (qs_Pc g sz SA [.ref a0z, .int x1z, .int x2z]) (qs_Qi g (qs_F g SA sz) post) 0 0 (qs_F g SA sz) := by
  refine Met.ofW (cc := cX7_giveAway) (maxL := 5) (ret := (some .int)) (by decide +kernel) rfl ?_
  intro p e s m args below meth c s₁ B hml hv
  obtain ⟨rfl, hsz, hG⟩ := qs_Gd.start hv
  subst hsz
  have hx := B.exec
  have hb := B.bytes
  have hr := B.returns
  have hts := atoms_spec (ws := wsX7_giveAway) B.pre
  have hown : s.vm.findClass RX7 = some m.cls := findClass_of_methodNamed B.named
  have hlk := B.notSynchronized
  have in7 : ∀ w ∈ u_ws RX7 TX7 35, w ∈ wsX7_giveAway := fun w h => List.mem_cons_of_mem _ (List.mem_append_right _ (h))
  have c60 : ∀ (K60 : qs_S → Nat → Int32 → Int32 → Int32 → Int32 → Prop), (∀ (S : qs_S) (a0 : Nat) (x1 : Int32) (x2 : Int32) (x3 : Int32) (x4 : Int32) (H : Heap) (locs : List Loc) (ls : Array Slot), K60 S a0 x1 x2 x3 x4 → qs_Gd g (qs_F g SA s.heap.size) s S H locs → lv_has ls 5 [(0, .ref a0), (1, .int x1), (2, .int x2), (3, .int x3), (4, .int x4)] → W p l e (headSpec wsX7_giveAway ({ frames := 2, cells := 0, slots := 0, locals := 42 } : Room)).room s m (([.ref a0z, .int x1z, .int x2z] : List Value)).toArray below meth c H locs 0 0 (MQ below (qs_Qi g (qs_F g SA s.heap.size) post) (([.ref a0z, .int x1z, .int x2z] : List Value)).toArray s 0 0 (qs_F g SA s.heap.size)) (F0 m 60 ls [])) → ∀ (S : qs_S) (a0 : Nat) (x1 : Int32) (x2 : Int32) (x3 : Int32) (x4 : Int32) (H : Heap) (locs : List Loc) (ls : Array Slot), wp_X7_giveAway_c60 g.2.2.2.2.2.2.1 g.2.2.2.2.2.2.2 post K60 S a0 x1 x2 x3 x4 → qs_Gd g (qs_F g SA s.heap.size) s S H locs → lv_has ls 5 [(0, .ref a0), (1, .int x1), (2, .int x2), (3, .int x3), (4, .int x4)] → W p l e (headSpec wsX7_giveAway ({ frames := 2, cells := 0, slots := 0, locals := 42 } : Room)).room s m (([.ref a0z, .int x1z, .int x2z] : List Value)).toArray below meth c H locs 0 0 (MQ below (qs_Qi g (qs_F g SA s.heap.size) post) (([.ref a0z, .int x1z, .int x2z] : List Value)).toArray s 0 0 (qs_F g SA s.heap.size)) (F0 m 60 ls []) := by
    intro K60 hK60 S a0 x1 x2 x3 x4 H locs ls h hG hl
    unfold wp_X7_giveAway_c60 at h
    refine lv_iload hx hb dX7_giveAway_60 (lv_at hl 4 rfl) ?_
    refine lv_iload_n hx hb dX7_giveAway_62 rfl (lv_at hl 3 rfl) ?_
    refine lv_icmp_ge (tgt := 89) hx hb dX7_giveAway_63 (by decide) (fun c1 => ?_) (fun c1 => ?_)
    · have h := h.1 c1
      refine lv_aload_n hx hb dX7_giveAway_89 rfl (lv_at hl 0 rfl) ?_
      obtain ⟨⟨hL2, fK3⟩, h⟩ := h
      obtain ⟨q4, eq4, h⟩ := h
      refine qr_get (C := RX7) (T := TX7) (N := 35) (ci := 7) hx hb hts in7 hown hG hL2 fK3 (by decide) rfl 29 (by decide) rfl (hts (.fieldLink RX7 77 "QuayMeshModel" "many" "[I") (List.mem_of_getElem? (i := 3) rfl)) (fun _ h9 => h9) (v := .ref q4) (qs_rf eq4) dX7_giveAway_90 ?_
      refine lv_iload_n hx hb dX7_giveAway_93 rfl (lv_at hl 1 rfl) ?_
      refine lv_iconst (v := (0 : Int32)) hx hb dX7_giveAway_94 (by decide +kernel) ?_
      obtain ⟨⟨hL5, fK6⟩, h⟩ := h
      obtain ⟨hi7, h⟩ := h
      refine qr_iast hx hb hG hL5 fK6 hi7 dX7_giveAway_95 (fun H locs hG => ?_)
      refine lv_iload_n hx hb dX7_giveAway_96 rfl (lv_at hl 3 rfl) ?_
      exact qe_i hx hb hr hlk hG h (Nat.le_refl _) (Nat.le_refl _) dX7_giveAway_97
    · have h := h.2 c1
      refine lv_aload_n hx hb dX7_giveAway_66 rfl (lv_at hl 0 rfl) ?_
      refine lv_iload_n hx hb dX7_giveAway_67 rfl (lv_at hl 2 rfl) ?_
      refine lv_aload_n hx hb dX7_giveAway_68 rfl (lv_at hl 0 rfl) ?_
      obtain ⟨⟨hL8, fK9⟩, h⟩ := h
      obtain ⟨q10, eq10, h⟩ := h
      refine qr_get (C := RX7) (T := TX7) (N := 35) (ci := 7) hx hb hts in7 hown hG hL8 fK9 (by decide) rfl 30 (by decide) rfl (hts (.fieldLink RX7 80 "QuayMeshModel" "queue" "[I") (List.mem_of_getElem? (i := 4) rfl)) (fun _ h9 => h9) (v := .ref q10) (qs_rf eq10) dX7_giveAway_69 ?_
      refine lv_bipush (v := (80 : Int32)) hx hb dX7_giveAway_72 (by decide +kernel) ?_
      refine lv_iload_n hx hb dX7_giveAway_74 rfl (lv_at hl 1 rfl) ?_
      refine lv_imul hx hb dX7_giveAway_75 ?_
      refine lv_topi (fun v11 ev11 => ?_)
      have h := h v11 ev11
      refine lv_iload hx hb dX7_giveAway_76 (lv_at hl 4 rfl) ?_
      refine lv_iadd hx hb dX7_giveAway_78 ?_
      refine lv_topi (fun v12 ev12 => ?_)
      have h := h v12 ev12
      obtain ⟨⟨hL13, fK14⟩, h⟩ := h
      obtain ⟨hi15, h⟩ := h
      refine qr_iald hx hb hG hL13 fK14 hi15 rfl dX7_giveAway_79 ?_
      refine lv_topi (fun v16 ev16 => ?_)
      have h := h v16 ev16
      refine qc_v hG (va_runV (As := [.int x2, .int v16]) (rest := []) ⟨hx, hb, hml, hown, hts⟩ (c_X7_joins l g _ S a0 x2 v16 h) (cwV 2 hts gX7_giveAway_X7_joins rfl rfl rfl (by decide +kernel) ⟨(Nat.le_of_ble_eq_true rfl), (Nat.le_of_ble_eq_true rfl)⟩) ⟨qs_Pc.blind _ _ _ _, hG.recv hL8 fK9 (by decide) rfl, hG.pre _⟩ rfl rfl hl.1 rfl (lv_room (Nat.le_of_ble_eq_true rfl)) dX7_giveAway_80 ⟨Nat.zero_le _, Nat.zero_le _⟩) (fun S19 H locs h hG => ?_)
      obtain ⟨v20, ev20⟩ : ∃ y : Int32, y = x4 + 1 := ⟨_, rfl⟩
      have h := h v20 ev20
      refine lv_iinc (v := v20) (lv' := [(4, .int v20), (0, .ref a0), (1, .int x1), (2, .int x2), (3, .int x3)]) hx hb dX7_giveAway_83 hl (k := 4) rfl (by rw [ev20]; rfl) (by decide) rfl (fun ls hl => ?_)
      refine lv_goto (tgt := 60) hx hb dX7_giveAway_86 (by decide) ?_
      exact hK60 S19 a0 x1 x2 x3 v20 _ _ ls h hG (lv_sub hl [1, 2, 3, 4, 0] rfl)
  have b60 : ∀ n9 : Nat, ∀ (S : qs_S) (a0 : Nat) (x1 : Int32) (x2 : Int32) (x3 : Int32) (x4 : Int32) (H : Heap) (locs : List Loc) (ls : Array Slot), wp_X7_giveAway_b60 g.2.2.2.2.2.2.1 g.2.2.2.2.2.2.2 post n9 S a0 x1 x2 x3 x4 → qs_Gd g (qs_F g SA s.heap.size) s S H locs → lv_has ls 5 [(0, .ref a0), (1, .int x1), (2, .int x2), (3, .int x3), (4, .int x4)] → W p l e (headSpec wsX7_giveAway ({ frames := 2, cells := 0, slots := 0, locals := 42 } : Room)).room s m (([.ref a0z, .int x1z, .int x2z] : List Value)).toArray below meth c H locs 0 0 (MQ below (qs_Qi g (qs_F g SA s.heap.size) post) (([.ref a0z, .int x1z, .int x2z] : List Value)).toArray s 0 0 (qs_F g SA s.heap.size)) (F0 m 60 ls []) := by
    intro n9
    induction n9 with
    | zero =>
      intro S a0 x1 x2 x3 x4 H locs ls h hG hl
      exact False.elim h
    | succ n9 ih => exact c60 _ ih
  have b38 : ∀ (S : qs_S) (a0 : Nat) (x1 : Int32) (x2 : Int32) (r0 : Nat) (s1 : Int32) (H : Heap) (locs : List Loc) (ls : Array Slot), wp_X7_giveAway_b38 g.2.2.2.2.2.2.1 g.2.2.2.2.2.2.2 post S a0 x1 x2 r0 s1 → qs_Gd g (qs_F g SA s.heap.size) s S H locs → lv_has ls 5 [(0, .ref a0), (1, .int x1), (2, .int x2)] → W p l e (headSpec wsX7_giveAway ({ frames := 2, cells := 0, slots := 0, locals := 42 } : Room)).room s m (([.ref a0z, .int x1z, .int x2z] : List Value)).toArray below meth c H locs 0 0 (MQ below (qs_Qi g (qs_F g SA s.heap.size) post) (([.ref a0z, .int x1z, .int x2z] : List Value)).toArray s 0 0 (qs_F g SA s.heap.size)) (F0 m 38 ls [.int s1, .ref r0]) := by
    intro S a0 x1 x2 r0 s1 H locs ls h hG hl
    unfold wp_X7_giveAway_b38 at h
    obtain ⟨⟨hL21, fK22⟩, h⟩ := h
    refine qr_putI (C := RX7) (T := TX7) (N := 35) (ci := 7) hx hb hts in7 tyX7 tyX7_ok nmX7 hown hG hL21 fK22 (by decide) rfl 0 (by decide) rfl (hts (.fieldLink RX7 95 "QuayMeshModel" "thrown" "I") (List.mem_of_getElem? (i := 2) rfl)) (fun _ h9 => h9) rfl (x := s1) (tyX7_ok 0 (by decide)) rfl rfl dX7_giveAway_38 (fun H locs hG => ?_)
    refine lv_aload_n hx hb dX7_giveAway_41 rfl (lv_at hl 0 rfl) ?_
    obtain ⟨⟨hL23, fK24⟩, h⟩ := h
    refine qr_get (C := RX7) (T := TX7) (N := 35) (ci := 7) hx hb hts in7 hown hG hL23 fK24 (by decide) rfl 0 (by decide) rfl (hts (.fieldLink RX7 95 "QuayMeshModel" "thrown" "I") (List.mem_of_getElem? (i := 2) rfl)) (fun _ h9 => h9) (v := .int (qs_I (qs_wI S 0 r0 s1) 0 a0)) rfl dX7_giveAway_42 ?_
    refine lv_topi (fun v25 ev25 => ?_)
    have h := h v25 ev25
    refine lv_if_le (tgt := 50) hx hb dX7_giveAway_45 (by decide) (fun c26 => ?_) (fun c26 => ?_)
    · have h := h.1 c26
      refine lv_aload_n hx hb dX7_giveAway_50 rfl (lv_at hl 0 rfl) ?_
      obtain ⟨q27, eq27, h⟩ := h
      refine qr_get (C := RX7) (T := TX7) (N := 35) (ci := 7) hx hb hts in7 hown hG hL23 fK24 (by decide) rfl 29 (by decide) rfl (hts (.fieldLink RX7 77 "QuayMeshModel" "many" "[I") (List.mem_of_getElem? (i := 3) rfl)) (fun _ h9 => h9) (v := .ref q27) (qs_rf eq27) dX7_giveAway_51 ?_
      refine lv_iload_n hx hb dX7_giveAway_54 rfl (lv_at hl 1 rfl) ?_
      obtain ⟨⟨hL28, fK29⟩, h⟩ := h
      obtain ⟨hi30, h⟩ := h
      refine qr_iald hx hb hG hL28 fK29 hi30 rfl dX7_giveAway_55 ?_
      refine lv_topi (fun v31 ev31 => ?_)
      have h := h v31 ev31
      refine lv_istore_n (lv' := [(3, .int v31), (0, .ref a0), (1, .int x1), (2, .int x2)]) hx hb dX7_giveAway_56 rfl hl (by decide) rfl (fun ls hl => ?_)
      refine lv_iconst (v := (0 : Int32)) hx hb dX7_giveAway_57 (by decide +kernel) ?_
      refine lv_istore (lv' := [(4, .int (0 : Int32)), (3, .int v31), (0, .ref a0), (1, .int x1), (2, .int x2)]) hx hb dX7_giveAway_58 hl (by decide) rfl (fun ls hl => ?_)
      obtain ⟨n32, h⟩ := h
      exact b60 n32 (qs_wI S 0 r0 s1) a0 x1 x2 v31 (0 : Int32) _ _ ls h hG (lv_sub hl [2, 3, 4, 1, 0] rfl)
    · have h := h.2 c26
      refine lv_iconst (v := (0 : Int32)) hx hb dX7_giveAway_48 (by decide +kernel) ?_
      exact qe_i hx hb hr hlk hG h (Nat.le_refl _) (Nat.le_refl _) dX7_giveAway_49
  have b15 : ∀ (S : qs_S) (a0 : Nat) (x1 : Int32) (x2 : Int32) (r0 : Nat) (H : Heap) (locs : List Loc) (ls : Array Slot), wp_X7_giveAway_b15 g.2.2.2.2.2.2.1 g.2.2.2.2.2.2.2 post S a0 x1 x2 r0 → qs_Gd g (qs_F g SA s.heap.size) s S H locs → lv_has ls 5 [(0, .ref a0), (1, .int x1), (2, .int x2)] → W p l e (headSpec wsX7_giveAway ({ frames := 2, cells := 0, slots := 0, locals := 42 } : Room)).room s m (([.ref a0z, .int x1z, .int x2z] : List Value)).toArray below meth c H locs 0 0 (MQ below (qs_Qi g (qs_F g SA s.heap.size) post) (([.ref a0z, .int x1z, .int x2z] : List Value)).toArray s 0 0 (qs_F g SA s.heap.size)) (F0 m 15 ls [.ref r0]) := by
    intro S a0 x1 x2 r0 H locs ls h hG hl
    unfold wp_X7_giveAway_b15 at h
    refine lv_iconst (v := (1 : Int32)) hx hb dX7_giveAway_15 (by decide +kernel) ?_
    refine lv_goto (tgt := 38) hx hb dX7_giveAway_16 (by decide) ?_
    exact b38 S a0 x1 x2 r0 (1 : Int32) _ _ ls h hG (lv_sub hl [0, 1, 2] rfl)
  have b33 : ∀ (S : qs_S) (a0 : Nat) (x1 : Int32) (x2 : Int32) (r0 : Nat) (H : Heap) (locs : List Loc) (ls : Array Slot), wp_X7_giveAway_b33 g.2.2.2.2.2.2.1 g.2.2.2.2.2.2.2 post S a0 x1 x2 r0 → qs_Gd g (qs_F g SA s.heap.size) s S H locs → lv_has ls 5 [(0, .ref a0), (1, .int x1), (2, .int x2)] → W p l e (headSpec wsX7_giveAway ({ frames := 2, cells := 0, slots := 0, locals := 42 } : Room)).room s m (([.ref a0z, .int x1z, .int x2z] : List Value)).toArray below meth c H locs 0 0 (MQ below (qs_Qi g (qs_F g SA s.heap.size) post) (([.ref a0z, .int x1z, .int x2z] : List Value)).toArray s 0 0 (qs_F g SA s.heap.size)) (F0 m 33 ls [.ref r0]) := by
    intro S a0 x1 x2 r0 H locs ls h hG hl
    unfold wp_X7_giveAway_b33 at h
    refine lv_iconst (v := (2 : Int32)) hx hb dX7_giveAway_33 (by decide +kernel) ?_
    refine lv_goto (tgt := 38) hx hb dX7_giveAway_34 (by decide) ?_
    exact b38 S a0 x1 x2 r0 (2 : Int32) _ _ ls h hG (lv_sub hl [0, 1, 2] rfl)
  have hl := lv_entry ([.ref a0z, .int x1z, .int x2z]) (n := 5) (Nat.le_of_ble_eq_true rfl)
  rw [lg_entry_eq]
  generalize (lg_sl ([.ref a0z, .int x1z, .int x2z]) ++ List.replicate (5 - (lg_sl ([.ref a0z, .int x1z, .int x2z])).length) Slot.unset).toArray = ls at hl ⊢
  have hl : lv_has ls 5 [(0, .ref a0z), (1, .int x1z), (2, .int x2z)] := hl
  unfold wp_X7_giveAway at h
  refine lv_aload_n hx hb dX7_giveAway_0 rfl (lv_at hl 0 rfl) ?_
  refine lv_iload_n hx hb dX7_giveAway_1 rfl (lv_at hl 1 rfl) ?_
  refine qc_i hG (va_runS (As := [.int x1z]) (rest := [.ref a0z]) ⟨hx, hb, hml, hown, hts⟩ (c_X7_isCrane l g _ SA x1z h) (va_cwS 1 hts gX7_giveAway_X7_isCrane rfl rfl rfl (by decide +kernel) ⟨(Nat.le_of_ble_eq_true rfl), (Nat.le_of_ble_eq_true rfl)⟩) ⟨qs_Pc.blind _ _ _ _, hG.pre _⟩ rfl rfl hl.1 rfl (lv_room (Nat.le_of_ble_eq_true rfl)) dX7_giveAway_2 ⟨Nat.zero_le _, Nat.zero_le _⟩) (fun v36 S35 H locs h hG => ?_)
  refine lv_if_eq (tgt := 15) hx hb dX7_giveAway_5 (by decide) (fun c37 => ?_) (fun c37 => ?_)
  · have h := h.1 c37
    exact b15 S35 a0z x1z x2z a0z _ _ ls h hG (lv_sub hl [0, 1, 2] rfl)
  · have h := h.2 c37
    refine lv_iload_n hx hb dX7_giveAway_8 rfl (lv_at hl 2 rfl) ?_
    refine qc_i hG (va_runS (As := [.int x2z]) (rest := [.ref a0z]) ⟨hx, hb, hml, hown, hts⟩ (c_X7_isCrane l g _ S35 x2z h) (va_cwS 1 hts gX7_giveAway_X7_isCrane rfl rfl rfl (by decide +kernel) ⟨(Nat.le_of_ble_eq_true rfl), (Nat.le_of_ble_eq_true rfl)⟩) ⟨qs_Pc.blind _ _ _ _, hG.pre _⟩ rfl rfl hl.1 rfl (lv_room (Nat.le_of_ble_eq_true rfl)) dX7_giveAway_9 ⟨Nat.zero_le _, Nat.zero_le _⟩) (fun v41 S40 H locs h hG => ?_)
    refine lv_if_ne (tgt := 19) hx hb dX7_giveAway_12 (by decide) (fun c42 => ?_) (fun c42 => ?_)
    · have h := h.1 c42
      refine lv_aload_n hx hb dX7_giveAway_19 rfl (lv_at hl 0 rfl) ?_
      obtain ⟨⟨hL43, fK44⟩, h⟩ := h
      obtain ⟨q45, eq45, h⟩ := h
      refine qr_get (C := RX7) (T := TX7) (N := 35) (ci := 7) hx hb hts in7 hown hG hL43 fK44 (by decide) rfl 17 (by decide) rfl (hts (.fieldLink RX7 50 "QuayMeshModel" "isSilent" "[Z") (List.mem_of_getElem? (i := 1) rfl)) (fun _ h9 => h9) (v := .ref q45) (qs_rf eq45) dX7_giveAway_20 ?_
      refine lv_iload_n hx hb dX7_giveAway_23 rfl (lv_at hl 1 rfl) ?_
      obtain ⟨⟨hL46, fK47⟩, h⟩ := h
      obtain ⟨hi48, h⟩ := h
      refine qr_zald hx hb hG hL46 fK47 hi48 rfl dX7_giveAway_24 ?_
      refine lv_topi (fun v49 ev49 => ?_)
      have h := h v49 ev49
      refine lv_if_eq (tgt := 33) hx hb dX7_giveAway_25 (by decide) (fun c50 => ?_) (fun c50 => ?_)
      · have h := h.1 c50
        exact b33 S40 a0z x1z x2z a0z _ _ ls h hG (lv_sub hl [0, 1, 2] rfl)
      · have h := h.2 c50
        refine lv_iload_n hx hb dX7_giveAway_28 rfl (lv_at hl 1 rfl) ?_
        refine lv_iload_n hx hb dX7_giveAway_29 rfl (lv_at hl 2 rfl) ?_
        refine lv_icmp_ne (tgt := 37) hx hb dX7_giveAway_30 (by decide) (fun c51 => ?_) (fun c51 => ?_)
        · have h := h.1 c51
          refine lv_iconst (v := (0 : Int32)) hx hb dX7_giveAway_37 (by decide +kernel) ?_
          exact b38 S40 a0z x1z x2z a0z (0 : Int32) _ _ ls h hG (lv_sub hl [0, 1, 2] rfl)
        · have h := h.2 c51
          exact b33 S40 a0z x1z x2z a0z _ _ ls h hG (lv_sub hl [0, 1, 2] rfl)
    · have h := h.2 c42
      exact b15 S40 a0z x1z x2z a0z _ _ ls h hG (lv_sub hl [0, 1, 2] rfl)
def wp_X7_park_b42 (t0 m9 : Nat) (post : Int32 → qs_S → Prop) (S : qs_S) (a0 : Nat) (x1 : Int32) (x2 : Int32) (r0 : Nat) (s1 : Int32) : Prop := (r0 ∈ qs_L S ∧ qs_K S r0 = 7) ∧ ((a0 ∈ qs_L (qs_wI S 0 r0 s1) ∧ qs_K (qs_wI S 0 r0 s1) a0 = 7) ∧ (∀ v5 : Int32, v5 = qs_I (qs_wI S 0 r0 s1) 0 a0 → (v5 ≤ 0 → (∃ q7 : Nat, qs_R (qs_wI S 0 r0 s1) 16 a0 = some q7 ∧ ((q7 ∈ qs_L (qs_wI S 0 r0 s1) ∧ qs_K (qs_wI S 0 r0 s1) q7 = 8) ∧ (vp_in x1 (qs_Z (qs_wI S 0 r0 s1) q7) ∧ (∀ v11 : Int32, v11 = qs_A (qs_wI S 0 r0 s1) q7 x1.toNatClampNeg → ∃ q12 : Nat, qs_R (qs_wI S 0 r0 s1) 16 a0 = some q12 ∧ ((q12 ∈ qs_L (qs_wI S 0 r0 s1) ∧ qs_K (qs_wI S 0 r0 s1) q12 = 8) ∧ (vp_in x1 (qs_Z (qs_wI S 0 r0 s1) q12) ∧ (post v11 (qs_wA (qs_wI S 0 r0 s1) q12 x1.toNatClampNeg x2))))))))) ∧ (¬ v5 ≤ 0 → (post (0 : Int32) (qs_wI S 0 r0 s1)))))
def wp_X7_park_b15 (t0 m9 : Nat) (post : Int32 → qs_S → Prop) (S : qs_S) (a0 : Nat) (x1 : Int32) (x2 : Int32) (r0 : Nat) : Prop := wp_X7_park_b42 t0 m9 post S a0 x1 x2 r0 (1 : Int32)
def wp_X7_park_b37 (t0 m9 : Nat) (post : Int32 → qs_S → Prop) (S : qs_S) (a0 : Nat) (x1 : Int32) (x2 : Int32) (r0 : Nat) : Prop := wp_X7_park_b42 t0 m9 post S a0 x1 x2 r0 (2 : Int32)
def wp_X7_park (t0 m9 : Nat) (post : Int32 → qs_S → Prop) (SA : qs_S) (a0z : Nat) (x1z : Int32) (x2z : Int32) : Prop := wp_X7_isCrane t0 m9 (fun (v19 : Int32) (S18 : qs_S) => (v19 = 0 → (wp_X7_park_b15 t0 m9 post S18 a0z x1z x2z a0z)) ∧ (¬ v19 = 0 → (wp_X7_isPlace t0 m9 (fun (v24 : Int32) (S23 : qs_S) => (¬ v24 = 0 → ((a0z ∈ qs_L S23 ∧ qs_K S23 a0z = 7) ∧ (∃ q28 : Nat, qs_R S23 17 a0z = some q28 ∧ ((q28 ∈ qs_L S23 ∧ qs_K S23 q28 = 9) ∧ (vp_in x1z (qs_Z S23 q28) ∧ (∀ v32 : Int32, v32 = qs_A S23 q28 x1z.toNatClampNeg → (¬ v32 = 0 → (wp_X7_park_b37 t0 m9 post S23 a0z x1z x2z a0z)) ∧ (v32 = 0 → (wp_X7_canGo t0 m9 (fun (v37 : Int32) (S36 : qs_S) => (¬ v37 = 0 → (wp_X7_park_b42 t0 m9 post S36 a0z x1z x2z a0z (0 : Int32))) ∧ (v37 = 0 → (wp_X7_park_b37 t0 m9 post S36 a0z x1z x2z a0z))) S23 a0z x1z x2z)))))))) ∧ (v24 = 0 → (wp_X7_park_b15 t0 m9 post S23 a0z x1z x2z a0z))) S18 x2z))) SA x1z
set_option maxHeartbeats 4000000 in
set_option maxRecDepth 100000 in
theorem c_X7_park (l : Launch) (g : qs_G) (sz : Nat) (SA : qs_S) (a0z : Nat) (x1z : Int32) (x2z : Int32) {post : Int32 → qs_S → Prop} (h : wp_X7_park g.2.2.2.2.2.2.1 g.2.2.2.2.2.2.2 post SA a0z x1z x2z) : Met l yX7_park wsX7_park ({ frames := 2, cells := 0, slots := 0, locals := 42 } : Room) (qs_Pc g sz SA [.ref a0z, .int x1z, .int x2z]) (qs_Qi g (qs_F g SA sz) post) 0 0 (qs_F g SA sz) := by
  refine Met.ofW (cc := cX7_park) (maxL := 4) (ret := (some .int)) (by decide +kernel) rfl ?_
  intro p e s m args below meth c s₁ B hml hv
  obtain ⟨rfl, hsz, hG⟩ := qs_Gd.start hv
  subst hsz
  have hx := B.exec
  have hb := B.bytes
  have hr := B.returns
  have hts := atoms_spec (ws := wsX7_park) B.pre
  have hown : s.vm.findClass RX7 = some m.cls := findClass_of_methodNamed B.named
  have hlk := B.notSynchronized
  have in7 : ∀ w ∈ u_ws RX7 TX7 35, w ∈ wsX7_park := fun w h => List.mem_cons_of_mem _ (List.mem_append_right _ (h))
  have b42 : ∀ (S : qs_S) (a0 : Nat) (x1 : Int32) (x2 : Int32) (r0 : Nat) (s1 : Int32) (H : Heap) (locs : List Loc) (ls : Array Slot), wp_X7_park_b42 g.2.2.2.2.2.2.1 g.2.2.2.2.2.2.2 post S a0 x1 x2 r0 s1 → qs_Gd g (qs_F g SA s.heap.size) s S H locs → lv_has ls 4 [(0, .ref a0), (1, .int x1), (2, .int x2)] → W p l e (headSpec wsX7_park ({ frames := 2, cells := 0, slots := 0, locals := 42 } : Room)).room s m (([.ref a0z, .int x1z, .int x2z] : List Value)).toArray below meth c H locs 0 0 (MQ below (qs_Qi g (qs_F g SA s.heap.size) post) (([.ref a0z, .int x1z, .int x2z] : List Value)).toArray s 0 0 (qs_F g SA s.heap.size)) (F0 m 42 ls [.int s1, .ref r0]) := by
    intro S a0 x1 x2 r0 s1 H locs ls h hG hl
    unfold wp_X7_park_b42 at h
    obtain ⟨⟨hL1, fK2⟩, h⟩ := h
    refine qr_putI (C := RX7) (T := TX7) (N := 35) (ci := 7) hx hb hts in7 tyX7 tyX7_ok nmX7 hown hG hL1 fK2 (by decide) rfl 0 (by decide) rfl (hts (.fieldLink RX7 95 "QuayMeshModel" "thrown" "I") (List.mem_of_getElem? (i := 2) rfl)) (fun _ h9 => h9) rfl (x := s1) (tyX7_ok 0 (by decide)) rfl rfl dX7_park_42 (fun H locs hG => ?_)
    refine lv_aload_n hx hb dX7_park_45 rfl (lv_at hl 0 rfl) ?_
    obtain ⟨⟨hL3, fK4⟩, h⟩ := h
    refine qr_get (C := RX7) (T := TX7) (N := 35) (ci := 7) hx hb hts in7 hown hG hL3 fK4 (by decide) rfl 0 (by decide) rfl (hts (.fieldLink RX7 95 "QuayMeshModel" "thrown" "I") (List.mem_of_getElem? (i := 2) rfl)) (fun _ h9 => h9) (v := .int (qs_I (qs_wI S 0 r0 s1) 0 a0)) rfl dX7_park_46 ?_
    refine lv_topi (fun v5 ev5 => ?_)
    have h := h v5 ev5
    refine lv_if_le (tgt := 54) hx hb dX7_park_49 (by decide) (fun c6 => ?_) (fun c6 => ?_)
    · have h := h.1 c6
      refine lv_aload_n hx hb dX7_park_54 rfl (lv_at hl 0 rfl) ?_
      obtain ⟨q7, eq7, h⟩ := h
      refine qr_get (C := RX7) (T := TX7) (N := 35) (ci := 7) hx hb hts in7 hown hG hL3 fK4 (by decide) rfl 16 (by decide) rfl (hts (.fieldLink RX7 47 "QuayMeshModel" "stands" "[I") (List.mem_of_getElem? (i := 3) rfl)) (fun _ h9 => h9) (v := .ref q7) (qs_rf eq7) dX7_park_55 ?_
      refine lv_iload_n hx hb dX7_park_58 rfl (lv_at hl 1 rfl) ?_
      obtain ⟨⟨hL8, fK9⟩, h⟩ := h
      obtain ⟨hi10, h⟩ := h
      refine qr_iald hx hb hG hL8 fK9 hi10 rfl dX7_park_59 ?_
      refine lv_topi (fun v11 ev11 => ?_)
      have h := h v11 ev11
      refine lv_istore_n (lv' := [(3, .int v11), (0, .ref a0), (1, .int x1), (2, .int x2)]) hx hb dX7_park_60 rfl hl (by decide) rfl (fun ls hl => ?_)
      refine lv_aload_n hx hb dX7_park_61 rfl (lv_at hl 1 rfl) ?_
      obtain ⟨q12, eq12, h⟩ := h
      refine qr_get (C := RX7) (T := TX7) (N := 35) (ci := 7) hx hb hts in7 hown hG hL3 fK4 (by decide) rfl 16 (by decide) rfl (hts (.fieldLink RX7 47 "QuayMeshModel" "stands" "[I") (List.mem_of_getElem? (i := 3) rfl)) (fun _ h9 => h9) (v := .ref q12) (qs_rf eq12) dX7_park_62 ?_
      refine lv_iload_n hx hb dX7_park_65 rfl (lv_at hl 2 rfl) ?_
      refine lv_iload_n hx hb dX7_park_66 rfl (lv_at hl 3 rfl) ?_
      obtain ⟨⟨hL13, fK14⟩, h⟩ := h
      obtain ⟨hi15, h⟩ := h
      refine qr_iast hx hb hG hL13 fK14 hi15 dX7_park_67 (fun H locs hG => ?_)
      refine lv_iload_n hx hb dX7_park_68 rfl (lv_at hl 0 rfl) ?_
      exact qe_i hx hb hr hlk hG h (Nat.le_refl _) (Nat.le_refl _) dX7_park_69
    · have h := h.2 c6
      refine lv_iconst (v := (0 : Int32)) hx hb dX7_park_52 (by decide +kernel) ?_
      exact qe_i hx hb hr hlk hG h (Nat.le_refl _) (Nat.le_refl _) dX7_park_53
  have b15 : ∀ (S : qs_S) (a0 : Nat) (x1 : Int32) (x2 : Int32) (r0 : Nat) (H : Heap) (locs : List Loc) (ls : Array Slot), wp_X7_park_b15 g.2.2.2.2.2.2.1 g.2.2.2.2.2.2.2 post S a0 x1 x2 r0 → qs_Gd g (qs_F g SA s.heap.size) s S H locs → lv_has ls 4 [(0, .ref a0), (1, .int x1), (2, .int x2)] → W p l e (headSpec wsX7_park ({ frames := 2, cells := 0, slots := 0, locals := 42 } : Room)).room s m (([.ref a0z, .int x1z, .int x2z] : List Value)).toArray below meth c H locs 0 0 (MQ below (qs_Qi g (qs_F g SA s.heap.size) post) (([.ref a0z, .int x1z, .int x2z] : List Value)).toArray s 0 0 (qs_F g SA s.heap.size)) (F0 m 15 ls [.ref r0]) := by
    intro S a0 x1 x2 r0 H locs ls h hG hl
    unfold wp_X7_park_b15 at h
    refine lv_iconst (v := (1 : Int32)) hx hb dX7_park_15 (by decide +kernel) ?_
    refine lv_goto (tgt := 42) hx hb dX7_park_16 (by decide) ?_
    exact b42 S a0 x1 x2 r0 (1 : Int32) _ _ ls h hG (lv_sub hl [0, 1, 2] rfl)
  have b37 : ∀ (S : qs_S) (a0 : Nat) (x1 : Int32) (x2 : Int32) (r0 : Nat) (H : Heap) (locs : List Loc) (ls : Array Slot), wp_X7_park_b37 g.2.2.2.2.2.2.1 g.2.2.2.2.2.2.2 post S a0 x1 x2 r0 → qs_Gd g (qs_F g SA s.heap.size) s S H locs → lv_has ls 4 [(0, .ref a0), (1, .int x1), (2, .int x2)] → W p l e (headSpec wsX7_park ({ frames := 2, cells := 0, slots := 0, locals := 42 } : Room)).room s m (([.ref a0z, .int x1z, .int x2z] : List Value)).toArray below meth c H locs 0 0 (MQ below (qs_Qi g (qs_F g SA s.heap.size) post) (([.ref a0z, .int x1z, .int x2z] : List Value)).toArray s 0 0 (qs_F g SA s.heap.size)) (F0 m 37 ls [.ref r0]) := by
    intro S a0 x1 x2 r0 H locs ls h hG hl
    unfold wp_X7_park_b37 at h
    refine lv_iconst (v := (2 : Int32)) hx hb dX7_park_37 (by decide +kernel) ?_
    refine lv_goto (tgt := 42) hx hb dX7_park_38 (by decide) ?_
    exact b42 S a0 x1 x2 r0 (2 : Int32) _ _ ls h hG (lv_sub hl [0, 1, 2] rfl)
  have hl := lv_entry ([.ref a0z, .int x1z, .int x2z]) (n := 4) (Nat.le_of_ble_eq_true rfl)
  rw [lg_entry_eq]
  generalize (lg_sl ([.ref a0z, .int x1z, .int x2z]) ++ List.replicate (4 - (lg_sl ([.ref a0z, .int x1z, .int x2z])).length) Slot.unset).toArray = ls at hl ⊢
  have hl : lv_has ls 4 [(0, .ref a0z), (1, .int x1z), (2, .int x2z)] := hl
  unfold wp_X7_park at h
  refine lv_aload_n hx hb dX7_park_0 rfl (lv_at hl 0 rfl) ?_
  refine lv_iload_n hx hb dX7_park_1 rfl (lv_at hl 1 rfl) ?_
  refine qc_i hG (va_runS (As := [.int x1z]) (rest := [.ref a0z]) ⟨hx, hb, hml, hown, hts⟩ (c_X7_isCrane l g _ SA x1z h) (va_cwS 1 hts gX7_park_X7_isCrane rfl rfl rfl (by decide +kernel) ⟨(Nat.le_of_ble_eq_true rfl), (Nat.le_of_ble_eq_true rfl)⟩) ⟨qs_Pc.blind _ _ _ _, hG.pre _⟩ rfl rfl hl.1 rfl (lv_room (Nat.le_of_ble_eq_true rfl)) dX7_park_2 ⟨Nat.zero_le _, Nat.zero_le _⟩) (fun v19 S18 H locs h hG => ?_)
  refine lv_if_eq (tgt := 15) hx hb dX7_park_5 (by decide) (fun c20 => ?_) (fun c20 => ?_)
  · have h := h.1 c20
    exact b15 S18 a0z x1z x2z a0z _ _ ls h hG (lv_sub hl [0, 1, 2] rfl)
  · have h := h.2 c20
    refine lv_iload_n hx hb dX7_park_8 rfl (lv_at hl 2 rfl) ?_
    refine qc_i hG (va_runS (As := [.int x2z]) (rest := [.ref a0z]) ⟨hx, hb, hml, hown, hts⟩ (c_X7_isPlace l g _ S18 x2z h) (va_cwS 1 hts gX7_park_X7_isPlace rfl rfl rfl (by decide +kernel) ⟨(Nat.le_of_ble_eq_true rfl), (Nat.le_of_ble_eq_true rfl)⟩) ⟨qs_Pc.blind _ _ _ _, hG.pre _⟩ rfl rfl hl.1 rfl (lv_room (Nat.le_of_ble_eq_true rfl)) dX7_park_9 ⟨Nat.zero_le _, Nat.zero_le _⟩) (fun v24 S23 H locs h hG => ?_)
    refine lv_if_ne (tgt := 19) hx hb dX7_park_12 (by decide) (fun c25 => ?_) (fun c25 => ?_)
    · have h := h.1 c25
      refine lv_aload_n hx hb dX7_park_19 rfl (lv_at hl 0 rfl) ?_
      obtain ⟨⟨hL26, fK27⟩, h⟩ := h
      obtain ⟨q28, eq28, h⟩ := h
      refine qr_get (C := RX7) (T := TX7) (N := 35) (ci := 7) hx hb hts in7 hown hG hL26 fK27 (by decide) rfl 17 (by decide) rfl (hts (.fieldLink RX7 50 "QuayMeshModel" "isSilent" "[Z") (List.mem_of_getElem? (i := 1) rfl)) (fun _ h9 => h9) (v := .ref q28) (qs_rf eq28) dX7_park_20 ?_
      refine lv_iload_n hx hb dX7_park_23 rfl (lv_at hl 1 rfl) ?_
      obtain ⟨⟨hL29, fK30⟩, h⟩ := h
      obtain ⟨hi31, h⟩ := h
      refine qr_zald hx hb hG hL29 fK30 hi31 rfl dX7_park_24 ?_
      refine lv_topi (fun v32 ev32 => ?_)
      have h := h v32 ev32
      refine lv_if_ne (tgt := 37) hx hb dX7_park_25 (by decide) (fun c33 => ?_) (fun c33 => ?_)
      · have h := h.1 c33
        exact b37 S23 a0z x1z x2z a0z _ _ ls h hG (lv_sub hl [0, 1, 2] rfl)
      · have h := h.2 c33
        refine lv_aload_n hx hb dX7_park_28 rfl (lv_at hl 0 rfl) ?_
        refine lv_iload_n hx hb dX7_park_29 rfl (lv_at hl 1 rfl) ?_
        refine lv_iload_n hx hb dX7_park_30 rfl (lv_at hl 2 rfl) ?_
        refine qc_i hG (va_runV (As := [.int x1z, .int x2z]) (rest := [.ref a0z]) ⟨hx, hb, hml, hown, hts⟩ (c_X7_canGo l g _ S23 a0z x1z x2z h) (cwV 2 hts gX7_park_X7_canGo rfl rfl rfl (by decide +kernel) ⟨(Nat.le_of_ble_eq_true rfl), (Nat.le_of_ble_eq_true rfl)⟩) ⟨qs_Pc.blind _ _ _ _, hG.recv hL26 fK27 (by decide) rfl, hG.pre _⟩ rfl rfl hl.1 rfl (lv_room (Nat.le_of_ble_eq_true rfl)) dX7_park_31 ⟨Nat.zero_le _, Nat.zero_le _⟩) (fun v37 S36 H locs h hG => ?_)
        refine lv_if_ne (tgt := 41) hx hb dX7_park_34 (by decide) (fun c38 => ?_) (fun c38 => ?_)
        · have h := h.1 c38
          refine lv_iconst (v := (0 : Int32)) hx hb dX7_park_41 (by decide +kernel) ?_
          exact b42 S36 a0z x1z x2z a0z (0 : Int32) _ _ ls h hG (lv_sub hl [0, 1, 2] rfl)
        · have h := h.2 c38
          exact b37 S36 a0z x1z x2z a0z _ _ ls h hG (lv_sub hl [0, 1, 2] rfl)
    · have h := h.2 c25
      exact b15 S23 a0z x1z x2z a0z _ _ ls h hG (lv_sub hl [0, 1, 2] rfl)
def wp_X7_slotsFor_b42 (t0 m9 : Nat) (post : Int32 → qs_S → Prop) (K5 : qs_S → Nat → Int32 → Int32 → Int32 → Int32 → Prop) (S : qs_S) (a0 : Nat) (x1 : Int32) (x2 : Int32) (x4 : Int32) (s0 : Int32) (s1 : Int32) : Prop := ∀ v1 : Int32, v1 = s0 - s1 → ∀ v2 : Int32, v2 = x4 + 1 → K5 S a0 x1 x2 v1 v2
def wp_X7_slotsFor_b41 (t0 m9 : Nat) (post : Int32 → qs_S → Prop) (K5 : qs_S → Nat → Int32 → Int32 → Int32 → Int32 → Prop) (S : qs_S) (a0 : Nat) (x1 : Int32) (x2 : Int32) (x4 : Int32) (s0 : Int32) : Prop := wp_X7_slotsFor_b42 t0 m9 post K5 S a0 x1 x2 x4 s0 (0 : Int32)
def wp_X7_slotsFor_c5 (t0 m9 : Nat) (post : Int32 → qs_S → Prop) (K5 : qs_S → Nat → Int32 → Int32 → Int32 → Int32 → Prop) (S : qs_S) (a0 : Nat) (x1 : Int32) (x2 : Int32) (x3 : Int32) (x4 : Int32) : Prop := (a0 ∈ qs_L S ∧ qs_K S a0 = 7) ∧ (∀ v5 : Int32, v5 = qs_I S 6 a0 → (v5 ≤ x4 → (post x3 S)) ∧ (¬ v5 ≤ x4 → (∃ q7 : Nat, qs_R S 12 a0 = some q7 ∧ ((q7 ∈ qs_L S ∧ qs_K S q7 = 8) ∧ (vp_in x4 (qs_Z S q7) ∧ (∀ v11 : Int32, v11 = qs_A S q7 x4.toNatClampNeg → (¬ v11 = x2 → (wp_X7_slotsFor_b41 t0 m9 post K5 S a0 x1 x2 x4 x3)) ∧ (v11 = x2 → (∃ q13 : Nat, qs_R S 13 a0 = some q13 ∧ ((q13 ∈ qs_L S ∧ qs_K S q13 = 8) ∧ (vp_in x4 (qs_Z S q13) ∧ (∀ v17 : Int32, v17 = qs_A S q13 x4.toNatClampNeg → (¬ v17 = x1 → (wp_X7_slotsFor_b41 t0 m9 post K5 S a0 x1 x2 x4 x3)) ∧ (v17 = x1 → (wp_X7_slotsFor_b42 t0 m9 post K5 S a0 x1 x2 x4 x3 (1 : Int32))))))))))))))
def wp_X7_slotsFor_b5 (t0 m9 : Nat) (post : Int32 → qs_S → Prop) : Nat → qs_S → Nat → Int32 → Int32 → Int32 → Int32 → Prop
  | 0 => fun _ _ _ _ _ _ => False
  | n9 + 1 => wp_X7_slotsFor_c5 t0 m9 post (wp_X7_slotsFor_b5 t0 m9 post n9)
def wp_X7_slotsFor (t0 m9 : Nat) (post : Int32 → qs_S → Prop) (SA : qs_S) (a0z : Nat) (x1z : Int32) (x2z : Int32) : Prop := ∃ n19 : Nat, wp_X7_slotsFor_b5 t0 m9 post n19 SA a0z x1z x2z (2 : Int32) (0 : Int32)
set_option maxHeartbeats 4000000 in
set_option maxRecDepth 100000 in
theorem c_X7_slotsFor (l : Launch) (g : qs_G) (sz : Nat) (SA : qs_S) (a0z : Nat) (x1z : Int32) (x2z : Int32) {post : Int32 → qs_S → Prop} (h : wp_X7_slotsFor g.2.2.2.2.2.2.1 g.2.2.2.2.2.2.2 post SA a0z x1z x2z) : Met l yX7_slotsFor wsX7_slotsFor ({ frames := 0, cells := 0, slots := 0, locals := 0 } : Room) (qs_Pc g sz SA [.ref a0z, .int x1z, .int x2z]) (qs_Qi g (qs_F g SA sz) post) 0 0 (qs_F g SA sz) := by
  refine Met.ofW (cc := cX7_slotsFor) (maxL := 5) (ret := (some .int)) (by decide +kernel) rfl ?_
  intro p e s m args below meth c s₁ B hml hv
  obtain ⟨rfl, hsz, hG⟩ := qs_Gd.start hv
  subst hsz
  have hx := B.exec
  have hb := B.bytes
  have hr := B.returns
  have hts := atoms_spec (ws := wsX7_slotsFor) B.pre
  have hown : s.vm.findClass RX7 = some m.cls := findClass_of_methodNamed B.named
  have hlk := B.notSynchronized
  have in7 : ∀ w ∈ u_ws RX7 TX7 35, w ∈ wsX7_slotsFor := fun w h => List.mem_cons_of_mem _ (List.mem_append_right _ (h))
  have b42 : ∀ (K5 : qs_S → Nat → Int32 → Int32 → Int32 → Int32 → Prop), (∀ (S : qs_S) (a0 : Nat) (x1 : Int32) (x2 : Int32) (x3 : Int32) (x4 : Int32) (H : Heap) (locs : List Loc) (ls : Array Slot), K5 S a0 x1 x2 x3 x4 → qs_Gd g (qs_F g SA s.heap.size) s S H locs → lv_has ls 5 [(0, .ref a0), (1, .int x1), (2, .int x2), (3, .int x3), (4, .int x4)] → W p l e (headSpec wsX7_slotsFor ({ frames := 0, cells := 0, slots := 0, locals := 0 } : Room)).room s m (([.ref a0z, .int x1z, .int x2z] : List Value)).toArray below meth c H locs 0 0 (MQ below (qs_Qi g (qs_F g SA s.heap.size) post) (([.ref a0z, .int x1z, .int x2z] : List Value)).toArray s 0 0 (qs_F g SA s.heap.size)) (F0 m 5 ls [])) → ∀ (S : qs_S) (a0 : Nat) (x1 : Int32) (x2 : Int32) (x4 : Int32) (s0 : Int32) (s1 : Int32) (H : Heap) (locs : List Loc) (ls : Array Slot), wp_X7_slotsFor_b42 g.2.2.2.2.2.2.1 g.2.2.2.2.2.2.2 post K5 S a0 x1 x2 x4 s0 s1 → qs_Gd g (qs_F g SA s.heap.size) s S H locs → lv_has ls 5 [(0, .ref a0), (1, .int x1), (2, .int x2), (4, .int x4)] → W p l e (headSpec wsX7_slotsFor ({ frames := 0, cells := 0, slots := 0, locals := 0 } : Room)).room s m (([.ref a0z, .int x1z, .int x2z] : List Value)).toArray below meth c H locs 0 0 (MQ below (qs_Qi g (qs_F g SA s.heap.size) post) (([.ref a0z, .int x1z, .int x2z] : List Value)).toArray s 0 0 (qs_F g SA s.heap.size)) (F0 m 42 ls [.int s1, .int s0]) := by
    intro K5 hK5 S a0 x1 x2 x4 s0 s1 H locs ls h hG hl
    unfold wp_X7_slotsFor_b42 at h
    refine lv_isub hx hb dX7_slotsFor_42 ?_
    refine lv_topi (fun v1 ev1 => ?_)
    have h := h v1 ev1
    refine lv_istore_n (lv' := [(3, .int v1), (0, .ref a0), (1, .int x1), (2, .int x2), (4, .int x4)]) hx hb dX7_slotsFor_43 rfl hl (by decide) rfl (fun ls hl => ?_)
    obtain ⟨v2, ev2⟩ : ∃ y : Int32, y = x4 + 1 := ⟨_, rfl⟩
    have h := h v2 ev2
    refine lv_iinc (v := v2) (lv' := [(4, .int v2), (3, .int v1), (0, .ref a0), (1, .int x1), (2, .int x2)]) hx hb dX7_slotsFor_44 hl (k := 4) rfl (by rw [ev2]; rfl) (by decide) rfl (fun ls hl => ?_)
    refine lv_goto (tgt := 5) hx hb dX7_slotsFor_47 (by decide) ?_
    exact hK5 S a0 x1 x2 v1 v2 _ _ ls h hG (lv_sub hl [2, 3, 4, 1, 0] rfl)
  have b41 : ∀ (K5 : qs_S → Nat → Int32 → Int32 → Int32 → Int32 → Prop), (∀ (S : qs_S) (a0 : Nat) (x1 : Int32) (x2 : Int32) (x3 : Int32) (x4 : Int32) (H : Heap) (locs : List Loc) (ls : Array Slot), K5 S a0 x1 x2 x3 x4 → qs_Gd g (qs_F g SA s.heap.size) s S H locs → lv_has ls 5 [(0, .ref a0), (1, .int x1), (2, .int x2), (3, .int x3), (4, .int x4)] → W p l e (headSpec wsX7_slotsFor ({ frames := 0, cells := 0, slots := 0, locals := 0 } : Room)).room s m (([.ref a0z, .int x1z, .int x2z] : List Value)).toArray below meth c H locs 0 0 (MQ below (qs_Qi g (qs_F g SA s.heap.size) post) (([.ref a0z, .int x1z, .int x2z] : List Value)).toArray s 0 0 (qs_F g SA s.heap.size)) (F0 m 5 ls [])) → ∀ (S : qs_S) (a0 : Nat) (x1 : Int32) (x2 : Int32) (x4 : Int32) (s0 : Int32) (H : Heap) (locs : List Loc) (ls : Array Slot), wp_X7_slotsFor_b41 g.2.2.2.2.2.2.1 g.2.2.2.2.2.2.2 post K5 S a0 x1 x2 x4 s0 → qs_Gd g (qs_F g SA s.heap.size) s S H locs → lv_has ls 5 [(0, .ref a0), (1, .int x1), (2, .int x2), (4, .int x4)] → W p l e (headSpec wsX7_slotsFor ({ frames := 0, cells := 0, slots := 0, locals := 0 } : Room)).room s m (([.ref a0z, .int x1z, .int x2z] : List Value)).toArray below meth c H locs 0 0 (MQ below (qs_Qi g (qs_F g SA s.heap.size) post) (([.ref a0z, .int x1z, .int x2z] : List Value)).toArray s 0 0 (qs_F g SA s.heap.size)) (F0 m 41 ls [.int s0]) := by
    intro K5 hK5 S a0 x1 x2 x4 s0 H locs ls h hG hl
    unfold wp_X7_slotsFor_b41 at h
    refine lv_iconst (v := (0 : Int32)) hx hb dX7_slotsFor_41 (by decide +kernel) ?_
    exact b42 K5 hK5 S a0 x1 x2 x4 s0 (0 : Int32) _ _ ls h hG (lv_sub hl [0, 1, 2, 3] rfl)
  have c5 : ∀ (K5 : qs_S → Nat → Int32 → Int32 → Int32 → Int32 → Prop), (∀ (S : qs_S) (a0 : Nat) (x1 : Int32) (x2 : Int32) (x3 : Int32) (x4 : Int32) (H : Heap) (locs : List Loc) (ls : Array Slot), K5 S a0 x1 x2 x3 x4 → qs_Gd g (qs_F g SA s.heap.size) s S H locs → lv_has ls 5 [(0, .ref a0), (1, .int x1), (2, .int x2), (3, .int x3), (4, .int x4)] → W p l e (headSpec wsX7_slotsFor ({ frames := 0, cells := 0, slots := 0, locals := 0 } : Room)).room s m (([.ref a0z, .int x1z, .int x2z] : List Value)).toArray below meth c H locs 0 0 (MQ below (qs_Qi g (qs_F g SA s.heap.size) post) (([.ref a0z, .int x1z, .int x2z] : List Value)).toArray s 0 0 (qs_F g SA s.heap.size)) (F0 m 5 ls [])) → ∀ (S : qs_S) (a0 : Nat) (x1 : Int32) (x2 : Int32) (x3 : Int32) (x4 : Int32) (H : Heap) (locs : List Loc) (ls : Array Slot), wp_X7_slotsFor_c5 g.2.2.2.2.2.2.1 g.2.2.2.2.2.2.2 post K5 S a0 x1 x2 x3 x4 → qs_Gd g (qs_F g SA s.heap.size) s S H locs → lv_has ls 5 [(0, .ref a0), (1, .int x1), (2, .int x2), (3, .int x3), (4, .int x4)] → W p l e (headSpec wsX7_slotsFor ({ frames := 0, cells := 0, slots := 0, locals := 0 } : Room)).room s m (([.ref a0z, .int x1z, .int x2z] : List Value)).toArray below meth c H locs 0 0 (MQ below (qs_Qi g (qs_F g SA s.heap.size) post) (([.ref a0z, .int x1z, .int x2z] : List Value)).toArray s 0 0 (qs_F g SA s.heap.size)) (F0 m 5 ls []) := by
    intro K5 hK5 S a0 x1 x2 x3 x4 H locs ls h hG hl
    unfold wp_X7_slotsFor_c5 at h
    refine lv_iload hx hb dX7_slotsFor_5 (lv_at hl 4 rfl) ?_
    refine lv_aload_n hx hb dX7_slotsFor_7 rfl (lv_at hl 0 rfl) ?_
    obtain ⟨⟨hL3, fK4⟩, h⟩ := h
    refine qr_get (C := RX7) (T := TX7) (N := 35) (ci := 7) hx hb hts in7 hown hG hL3 fK4 (by decide) rfl 6 (by decide) rfl (hts (.fieldLink RX7 106 "QuayMeshModel" "boxes" "I") (List.mem_of_getElem? (i := 1) rfl)) (fun _ h9 => h9) (v := .int (qs_I S 6 a0)) rfl dX7_slotsFor_8 ?_
    refine lv_topi (fun v5 ev5 => ?_)
    have h := h v5 ev5
    refine lv_icmp_ge (tgt := 50) hx hb dX7_slotsFor_11 (by decide) (fun c6 => ?_) (fun c6 => ?_)
    · have h := h.1 c6
      refine lv_iload_n hx hb dX7_slotsFor_50 rfl (lv_at hl 3 rfl) ?_
      exact qe_i hx hb hr hlk hG h (Nat.le_refl _) (Nat.le_refl _) dX7_slotsFor_51
    · have h := h.2 c6
      refine lv_iload_n hx hb dX7_slotsFor_14 rfl (lv_at hl 3 rfl) ?_
      refine lv_aload_n hx hb dX7_slotsFor_15 rfl (lv_at hl 0 rfl) ?_
      obtain ⟨q7, eq7, h⟩ := h
      refine qr_get (C := RX7) (T := TX7) (N := 35) (ci := 7) hx hb hts in7 hown hG hL3 fK4 (by decide) rfl 12 (by decide) rfl (hts (.fieldLink RX7 35 "QuayMeshModel" "booked" "[I") (List.mem_of_getElem? (i := 2) rfl)) (fun _ h9 => h9) (v := .ref q7) (qs_rf eq7) dX7_slotsFor_16 ?_
      refine lv_iload hx hb dX7_slotsFor_19 (lv_at hl 4 rfl) ?_
      obtain ⟨⟨hL8, fK9⟩, h⟩ := h
      obtain ⟨hi10, h⟩ := h
      refine qr_iald hx hb hG hL8 fK9 hi10 rfl dX7_slotsFor_21 ?_
      refine lv_topi (fun v11 ev11 => ?_)
      have h := h v11 ev11
      refine lv_iload_n hx hb dX7_slotsFor_22 rfl (lv_at hl 2 rfl) ?_
      refine lv_icmp_ne (tgt := 41) hx hb dX7_slotsFor_23 (by decide) (fun c12 => ?_) (fun c12 => ?_)
      · have h := h.1 c12
        exact b41 K5 hK5 S a0 x1 x2 x4 x3 _ _ ls h hG (lv_sub hl [0, 1, 2, 4] rfl)
      · have h := h.2 c12
        refine lv_aload_n hx hb dX7_slotsFor_26 rfl (lv_at hl 0 rfl) ?_
        obtain ⟨q13, eq13, h⟩ := h
        refine qr_get (C := RX7) (T := TX7) (N := 35) (ci := 7) hx hb hts in7 hown hG hL3 fK4 (by decide) rfl 13 (by decide) rfl (hts (.fieldLink RX7 38 "QuayMeshModel" "gate" "[I") (List.mem_of_getElem? (i := 3) rfl)) (fun _ h9 => h9) (v := .ref q13) (qs_rf eq13) dX7_slotsFor_27 ?_
        refine lv_iload hx hb dX7_slotsFor_30 (lv_at hl 4 rfl) ?_
        obtain ⟨⟨hL14, fK15⟩, h⟩ := h
        obtain ⟨hi16, h⟩ := h
        refine qr_iald hx hb hG hL14 fK15 hi16 rfl dX7_slotsFor_32 ?_
        refine lv_topi (fun v17 ev17 => ?_)
        have h := h v17 ev17
        refine lv_iload_n hx hb dX7_slotsFor_33 rfl (lv_at hl 1 rfl) ?_
        refine lv_icmp_ne (tgt := 41) hx hb dX7_slotsFor_34 (by decide) (fun c18 => ?_) (fun c18 => ?_)
        · have h := h.1 c18
          exact b41 K5 hK5 S a0 x1 x2 x4 x3 _ _ ls h hG (lv_sub hl [0, 1, 2, 4] rfl)
        · have h := h.2 c18
          refine lv_iconst (v := (1 : Int32)) hx hb dX7_slotsFor_37 (by decide +kernel) ?_
          refine lv_goto (tgt := 42) hx hb dX7_slotsFor_38 (by decide) ?_
          exact b42 K5 hK5 S a0 x1 x2 x4 x3 (1 : Int32) _ _ ls h hG (lv_sub hl [0, 1, 2, 4] rfl)
  have b5 : ∀ n9 : Nat, ∀ (S : qs_S) (a0 : Nat) (x1 : Int32) (x2 : Int32) (x3 : Int32) (x4 : Int32) (H : Heap) (locs : List Loc) (ls : Array Slot), wp_X7_slotsFor_b5 g.2.2.2.2.2.2.1 g.2.2.2.2.2.2.2 post n9 S a0 x1 x2 x3 x4 → qs_Gd g (qs_F g SA s.heap.size) s S H locs → lv_has ls 5 [(0, .ref a0), (1, .int x1), (2, .int x2), (3, .int x3), (4, .int x4)] → W p l e (headSpec wsX7_slotsFor ({ frames := 0, cells := 0, slots := 0, locals := 0 } : Room)).room s m (([.ref a0z, .int x1z, .int x2z] : List Value)).toArray below meth c H locs 0 0 (MQ below (qs_Qi g (qs_F g SA s.heap.size) post) (([.ref a0z, .int x1z, .int x2z] : List Value)).toArray s 0 0 (qs_F g SA s.heap.size)) (F0 m 5 ls []) := by
    intro n9
    induction n9 with
    | zero =>
      intro S a0 x1 x2 x3 x4 H locs ls h hG hl
      exact False.elim h
    | succ n9 ih => exact c5 _ ih
  have hl := lv_entry ([.ref a0z, .int x1z, .int x2z]) (n := 5) (Nat.le_of_ble_eq_true rfl)
  rw [lg_entry_eq]
  generalize (lg_sl ([.ref a0z, .int x1z, .int x2z]) ++ List.replicate (5 - (lg_sl ([.ref a0z, .int x1z, .int x2z])).length) Slot.unset).toArray = ls at hl ⊢
  have hl : lv_has ls 5 [(0, .ref a0z), (1, .int x1z), (2, .int x2z)] := hl
  unfold wp_X7_slotsFor at h
  refine lv_iconst (v := (2 : Int32)) hx hb dX7_slotsFor_0 (by decide +kernel) ?_
  refine lv_istore_n (lv' := [(3, .int (2 : Int32)), (0, .ref a0z), (1, .int x1z), (2, .int x2z)]) hx hb dX7_slotsFor_1 rfl hl (by decide) rfl (fun ls hl => ?_)
  refine lv_iconst (v := (0 : Int32)) hx hb dX7_slotsFor_2 (by decide +kernel) ?_
  refine lv_istore (lv' := [(4, .int (0 : Int32)), (3, .int (2 : Int32)), (0, .ref a0z), (1, .int x1z), (2, .int x2z)]) hx hb dX7_slotsFor_3 hl (by decide) rfl (fun ls hl => ?_)
  obtain ⟨n19, h⟩ := h
  exact b5 n19 SA a0z x1z x2z (2 : Int32) (0 : Int32) _ _ ls h hG (lv_sub hl [2, 3, 4, 1, 0] rfl)
def wp_X7_canBook_b196 (t0 m9 : Nat) (post : Int32 → qs_S → Prop) (K39 : qs_S → Nat → Int32 → Int32 → Int32 → Int32 → Prop) (S : qs_S) (a0 : Nat) (x2 : Int32) (x3 : Int32) (x5 : Int32) (s0 : Int32) : Prop := ∀ v1 : Int32, v1 = x5 + 1 → K39 S a0 x2 x3 s0 v1
def wp_X7_canBook_b191 (t0 m9 : Nat) (post : Int32 → qs_S → Prop) (K39 : qs_S → Nat → Int32 → Int32 → Int32 → Int32 → Prop) (S : qs_S) (a0 : Nat) (x2 : Int32) (x3 : Int32) (x5 : Int32) : Prop := wp_X7_canBook_b196 t0 m9 post K39 S a0 x2 x3 x5 (1 : Int32)
def wp_X7_canBook_b195 (t0 m9 : Nat) (post : Int32 → qs_S → Prop) (K39 : qs_S → Nat → Int32 → Int32 → Int32 → Int32 → Prop) (S : qs_S) (a0 : Nat) (x2 : Int32) (x3 : Int32) (x5 : Int32) : Prop := wp_X7_canBook_b196 t0 m9 post K39 S a0 x2 x3 x5 (0 : Int32)
def wp_X7_canBook_b169 (t0 m9 : Nat) (post : Int32 → qs_S → Prop) (K39 : qs_S → Nat → Int32 → Int32 → Int32 → Int32 → Prop) (S : qs_S) (a0 : Nat) (x2 : Int32) (x3 : Int32) (x5 : Int32) (x8 : Int32) : Prop := (x8 = 0 → (wp_X7_canBook_b191 t0 m9 post K39 S a0 x2 x3 x5)) ∧ (¬ x8 = 0 → ((a0 ∈ qs_L S ∧ qs_K S a0 = 7) ∧ (∃ q5 : Nat, qs_R S 12 a0 = some q5 ∧ ((q5 ∈ qs_L S ∧ qs_K S q5 = 8) ∧ (vp_in x5 (qs_Z S q5) ∧ (∀ v9 : Int32, v9 = qs_A S q5 x5.toNatClampNeg → ∀ v10 : Int32, v10 = x2 - (1 : Int32) → wp_X7_in t0 m9 (fun (v14 : Int32) (S13 : qs_S) => (¬ v14 = 0 → (wp_X7_canBook_b195 t0 m9 post K39 S13 a0 x2 x3 x5)) ∧ (v14 = 0 → (wp_X7_canBook_b191 t0 m9 post K39 S13 a0 x2 x3 x5))) S v9 (0 : Int32) v10))))))
def wp_X7_canBook_b147 (t0 m9 : Nat) (post : Int32 → qs_S → Prop) (K39 : qs_S → Nat → Int32 → Int32 → Int32 → Int32 → Prop) (S : qs_S) (a0 : Nat) (x2 : Int32) (x3 : Int32) (x5 : Int32) (x7 : Int32) (s0 : Int32) : Prop := (x7 = 0 → (wp_X7_canBook_b169 t0 m9 post K39 S a0 x2 x3 x5 s0)) ∧ (¬ x7 = 0 → ((a0 ∈ qs_L S ∧ qs_K S a0 = 7) ∧ (∃ q19 : Nat, qs_R S 12 a0 = some q19 ∧ ((q19 ∈ qs_L S ∧ qs_K S q19 = 8) ∧ (vp_in x5 (qs_Z S q19) ∧ (∀ v23 : Int32, v23 = qs_A S q19 x5.toNatClampNeg → wp_X7_in t0 m9 (fun (v27 : Int32) (S26 : qs_S) => (v27 = 0 → (wp_X7_canBook_b195 t0 m9 post K39 S26 a0 x2 x3 x5)) ∧ (¬ v27 = 0 → (wp_X7_canBook_b169 t0 m9 post K39 S26 a0 x2 x3 x5 s0))) S v23 (0 : Int32) x2))))))
def wp_X7_canBook_b146 (t0 m9 : Nat) (post : Int32 → qs_S → Prop) (K39 : qs_S → Nat → Int32 → Int32 → Int32 → Int32 → Prop) (S : qs_S) (a0 : Nat) (x2 : Int32) (x3 : Int32) (x5 : Int32) (x7 : Int32) : Prop := wp_X7_canBook_b147 t0 m9 post K39 S a0 x2 x3 x5 x7 (0 : Int32)
def wp_X7_canBook_b119 (t0 m9 : Nat) (post : Int32 → qs_S → Prop) (K39 : qs_S → Nat → Int32 → Int32 → Int32 → Int32 → Prop) (S : qs_S) (a0 : Nat) (x2 : Int32) (x3 : Int32) (x5 : Int32) (x6 : Int32) (s0 : Int32) : Prop := (x6 = 0 → (wp_X7_canBook_b146 t0 m9 post K39 S a0 x2 x3 x5 s0)) ∧ (¬ x6 = 0 → ((a0 ∈ qs_L S ∧ qs_K S a0 = 7) ∧ (∃ q32 : Nat, qs_R S 15 a0 = some q32 ∧ ((q32 ∈ qs_L S ∧ qs_K S q32 = 8) ∧ (vp_in x5 (qs_Z S q32) ∧ (∀ v36 : Int32, v36 = qs_A S q32 x5.toNatClampNeg → ∃ q37 : Nat, qs_R S 15 a0 = some q37 ∧ ((q37 ∈ qs_L S ∧ qs_K S q37 = 8) ∧ (vp_in x3 (qs_Z S q37) ∧ (∀ v41 : Int32, v41 = qs_A S q37 x3.toNatClampNeg → (v41 ≤ v36 → (wp_X7_canBook_b146 t0 m9 post K39 S a0 x2 x3 x5 s0)) ∧ (¬ v41 ≤ v36 → (wp_X7_canBook_b147 t0 m9 post K39 S a0 x2 x3 x5 s0 (1 : Int32))))))))))))
def wp_X7_canBook_b118 (t0 m9 : Nat) (post : Int32 → qs_S → Prop) (K39 : qs_S → Nat → Int32 → Int32 → Int32 → Int32 → Prop) (S : qs_S) (a0 : Nat) (x2 : Int32) (x3 : Int32) (x5 : Int32) (x6 : Int32) : Prop := wp_X7_canBook_b119 t0 m9 post K39 S a0 x2 x3 x5 x6 (0 : Int32)
def wp_X7_canBook_b91 (t0 m9 : Nat) (post : Int32 → qs_S → Prop) (K39 : qs_S → Nat → Int32 → Int32 → Int32 → Int32 → Prop) (S : qs_S) (a0 : Nat) (x2 : Int32) (x3 : Int32) (x5 : Int32) (s0 : Int32) : Prop := (s0 = 0 → (wp_X7_canBook_b118 t0 m9 post K39 S a0 x2 x3 x5 s0)) ∧ (¬ s0 = 0 → ((a0 ∈ qs_L S ∧ qs_K S a0 = 7) ∧ (∃ q46 : Nat, qs_R S 15 a0 = some q46 ∧ ((q46 ∈ qs_L S ∧ qs_K S q46 = 8) ∧ (vp_in x5 (qs_Z S q46) ∧ (∀ v50 : Int32, v50 = qs_A S q46 x5.toNatClampNeg → ∃ q51 : Nat, qs_R S 15 a0 = some q51 ∧ ((q51 ∈ qs_L S ∧ qs_K S q51 = 8) ∧ (vp_in x3 (qs_Z S q51) ∧ (∀ v55 : Int32, v55 = qs_A S q51 x3.toNatClampNeg → (v50 ≤ v55 → (wp_X7_canBook_b118 t0 m9 post K39 S a0 x2 x3 x5 s0)) ∧ (¬ v50 ≤ v55 → (wp_X7_canBook_b119 t0 m9 post K39 S a0 x2 x3 x5 s0 (1 : Int32))))))))))))
def wp_X7_canBook_b90 (t0 m9 : Nat) (post : Int32 → qs_S → Prop) (K39 : qs_S → Nat → Int32 → Int32 → Int32 → Int32 → Prop) (S : qs_S) (a0 : Nat) (x2 : Int32) (x3 : Int32) (x5 : Int32) : Prop := wp_X7_canBook_b91 t0 m9 post K39 S a0 x2 x3 x5 (0 : Int32)
def wp_X7_canBook_b204 (t0 m9 : Nat) (post : Int32 → qs_S → Prop) (S : qs_S) (x4 : Int32) : Prop := (x4 = 0 ∨ x4 = 1) ∧ post x4 S
def wp_X7_canBook_c39 (t0 m9 : Nat) (post : Int32 → qs_S → Prop) (K39 : qs_S → Nat → Int32 → Int32 → Int32 → Int32 → Prop) (S : qs_S) (a0 : Nat) (x2 : Int32) (x3 : Int32) (x4 : Int32) (x5 : Int32) : Prop := (a0 ∈ qs_L S ∧ qs_K S a0 = 7) ∧ (∀ v60 : Int32, v60 = qs_I S 6 a0 → (v60 ≤ x5 → (wp_X7_canBook_b204 t0 m9 post S x4)) ∧ (¬ v60 ≤ x5 → ((x4 = 0 → (wp_X7_canBook_b204 t0 m9 post S x4)) ∧ (¬ x4 = 0 → ((x5 = x3 → (wp_X7_canBook_b90 t0 m9 post K39 S a0 x2 x3 x5)) ∧ (¬ x5 = x3 → (∃ q64 : Nat, qs_R S 9 a0 = some q64 ∧ ((q64 ∈ qs_L S ∧ qs_K S q64 = 8) ∧ (vp_in x5 (qs_Z S q64) ∧ (∀ v68 : Int32, v68 = qs_A S q64 x5.toNatClampNeg → (¬ v68 = (3 : Int32) → (wp_X7_canBook_b90 t0 m9 post K39 S a0 x2 x3 x5)) ∧ (v68 = (3 : Int32) → (∃ q70 : Nat, qs_R S 10 a0 = some q70 ∧ ((q70 ∈ qs_L S ∧ qs_K S q70 = 8) ∧ (vp_in x5 (qs_Z S q70) ∧ (∀ v74 : Int32, v74 = qs_A S q70 x5.toNatClampNeg → ∃ q75 : Nat, qs_R S 10 a0 = some q75 ∧ ((q75 ∈ qs_L S ∧ qs_K S q75 = 8) ∧ (vp_in x3 (qs_Z S q75) ∧ (∀ v79 : Int32, v79 = qs_A S q75 x3.toNatClampNeg → (¬ v74 = v79 → (wp_X7_canBook_b90 t0 m9 post K39 S a0 x2 x3 x5)) ∧ (v74 = v79 → (wp_X7_canBook_b91 t0 m9 post K39 S a0 x2 x3 x5 (1 : Int32)))))))))))))))))))))
def wp_X7_canBook_b39 (t0 m9 : Nat) (post : Int32 → qs_S → Prop) : Nat → qs_S → Nat → Int32 → Int32 → Int32 → Int32 → Prop
  | 0 => fun _ _ _ _ _ _ => False
  | n9 + 1 => wp_X7_canBook_c39 t0 m9 post (wp_X7_canBook_b39 t0 m9 post n9)
def wp_X7_canBook_b34 (t0 m9 : Nat) (post : Int32 → qs_S → Prop) (S : qs_S) (a0 : Nat) (x2 : Int32) (x3 : Int32) (s0 : Int32) : Prop := ∃ n81 : Nat, wp_X7_canBook_b39 t0 m9 post n81 S a0 x2 x3 s0 (0 : Int32)
def wp_X7_canBook_b33 (t0 m9 : Nat) (post : Int32 → qs_S → Prop) (S : qs_S) (a0 : Nat) (x2 : Int32) (x3 : Int32) : Prop := wp_X7_canBook_b34 t0 m9 post S a0 x2 x3 (0 : Int32)
def wp_X7_canBook (t0 m9 : Nat) (post : Int32 → qs_S → Prop) (SA : qs_S) (a0z : Nat) (x1z : Int32) (x2z : Int32) (x3z : Int32) : Prop := (a0z ∈ qs_L SA ∧ qs_K SA a0z = 7) ∧ (∃ q84 : Nat, qs_R SA 9 a0z = some q84 ∧ ((q84 ∈ qs_L SA ∧ qs_K SA q84 = 8) ∧ (vp_in x3z (qs_Z SA q84) ∧ (∀ v88 : Int32, v88 = qs_A SA q84 x3z.toNatClampNeg → (¬ v88 = (3 : Int32) → (wp_X7_canBook_b33 t0 m9 post SA a0z x2z x3z)) ∧ (v88 = (3 : Int32) → (∃ q90 : Nat, qs_R SA 12 a0z = some q90 ∧ ((q90 ∈ qs_L SA ∧ qs_K SA q90 = 8) ∧ (vp_in x3z (qs_Z SA q90) ∧ (∀ v94 : Int32, v94 = qs_A SA q90 x3z.toNatClampNeg → (¬ v94 = (-1 : Int32) → (wp_X7_canBook_b33 t0 m9 post SA a0z x2z x3z)) ∧ (v94 = (-1 : Int32) → (wp_X7_slotsFor t0 m9 (fun (v99 : Int32) (S98 : qs_S) => (v99 ≤ 0 → (wp_X7_canBook_b33 t0 m9 post S98 a0z x2z x3z)) ∧ (¬ v99 ≤ 0 → (wp_X7_canBook_b34 t0 m9 post S98 a0z x2z x3z (1 : Int32)))) SA a0z x1z x2z)))))))))))
set_option maxHeartbeats 4000000 in
set_option maxRecDepth 100000 in
theorem c_X7_canBook (l : Launch) (g : qs_G) (sz : Nat) (SA : qs_S) (a0z : Nat) (x1z : Int32) (x2z : Int32) (x3z : Int32) {post : Int32 → qs_S → Prop} (h : wp_X7_canBook g.2.2.2.2.2.2.1 g.2.2.2.2.2.2.2 post SA a0z x1z x2z x3z) : Met l yX7_canBook wsX7_canBook ({ frames := 1, cells := 0, slots := 0, locals := 24 } : Room) (qs_Pc g sz SA [.ref a0z, .int x1z, .int x2z, .int x3z]) (qs_Qi g (qs_F g SA sz) post) 0 0 (qs_F g SA sz) := by
  refine Met.ofW (cc := cX7_canBook) (maxL := 9) (ret := (some .boolean)) (by decide +kernel) rfl ?_
  intro p e s m args below meth c s₁ B hml hv
  obtain ⟨rfl, hsz, hG⟩ := qs_Gd.start hv
  subst hsz
  have hx := B.exec
  have hb := B.bytes
  have hr := B.returns
  have hts := atoms_spec (ws := wsX7_canBook) B.pre
  have hown : s.vm.findClass RX7 = some m.cls := findClass_of_methodNamed B.named
  have hlk := B.notSynchronized
  have in7 : ∀ w ∈ u_ws RX7 TX7 35, w ∈ wsX7_canBook := fun w h => List.mem_cons_of_mem _ (List.mem_append_right _ (h))
  have b196 : ∀ (K39 : qs_S → Nat → Int32 → Int32 → Int32 → Int32 → Prop), (∀ (S : qs_S) (a0 : Nat) (x2 : Int32) (x3 : Int32) (x4 : Int32) (x5 : Int32) (H : Heap) (locs : List Loc) (ls : Array Slot), K39 S a0 x2 x3 x4 x5 → qs_Gd g (qs_F g SA s.heap.size) s S H locs → lv_has ls 9 [(0, .ref a0), (2, .int x2), (3, .int x3), (4, .int x4), (5, .int x5)] → W p l e (headSpec wsX7_canBook ({ frames := 1, cells := 0, slots := 0, locals := 24 } : Room)).room s m (([.ref a0z, .int x1z, .int x2z, .int x3z] : List Value)).toArray below meth c H locs 0 0 (MQ below (qs_Qi g (qs_F g SA s.heap.size) post) (([.ref a0z, .int x1z, .int x2z, .int x3z] : List Value)).toArray s 0 0 (qs_F g SA s.heap.size)) (F0 m 39 ls [])) → ∀ (S : qs_S) (a0 : Nat) (x2 : Int32) (x3 : Int32) (x5 : Int32) (s0 : Int32) (H : Heap) (locs : List Loc) (ls : Array Slot), wp_X7_canBook_b196 g.2.2.2.2.2.2.1 g.2.2.2.2.2.2.2 post K39 S a0 x2 x3 x5 s0 → qs_Gd g (qs_F g SA s.heap.size) s S H locs → lv_has ls 9 [(0, .ref a0), (2, .int x2), (3, .int x3), (5, .int x5)] → W p l e (headSpec wsX7_canBook ({ frames := 1, cells := 0, slots := 0, locals := 24 } : Room)).room s m (([.ref a0z, .int x1z, .int x2z, .int x3z] : List Value)).toArray below meth c H locs 0 0 (MQ below (qs_Qi g (qs_F g SA s.heap.size) post) (([.ref a0z, .int x1z, .int x2z, .int x3z] : List Value)).toArray s 0 0 (qs_F g SA s.heap.size)) (F0 m 196 ls [.int s0]) := by
    intro K39 hK39 S a0 x2 x3 x5 s0 H locs ls h hG hl
    unfold wp_X7_canBook_b196 at h
    refine lv_istore (lv' := [(4, .int s0), (0, .ref a0), (2, .int x2), (3, .int x3), (5, .int x5)]) hx hb dX7_canBook_196 hl (by decide) rfl (fun ls hl => ?_)
    obtain ⟨v1, ev1⟩ : ∃ y : Int32, y = x5 + 1 := ⟨_, rfl⟩
    have h := h v1 ev1
    refine lv_iinc (v := v1) (lv' := [(5, .int v1), (4, .int s0), (0, .ref a0), (2, .int x2), (3, .int x3)]) hx hb dX7_canBook_198 hl (k := 4) rfl (by rw [ev1]; rfl) (by decide) rfl (fun ls hl => ?_)
    refine lv_goto (tgt := 39) hx hb dX7_canBook_201 (by decide) ?_
    exact hK39 S a0 x2 x3 s0 v1 _ _ ls h hG (lv_sub hl [2, 3, 4, 1, 0] rfl)
  have b191 : ∀ (K39 : qs_S → Nat → Int32 → Int32 → Int32 → Int32 → Prop), (∀ (S : qs_S) (a0 : Nat) (x2 : Int32) (x3 : Int32) (x4 : Int32) (x5 : Int32) (H : Heap) (locs : List Loc) (ls : Array Slot), K39 S a0 x2 x3 x4 x5 → qs_Gd g (qs_F g SA s.heap.size) s S H locs → lv_has ls 9 [(0, .ref a0), (2, .int x2), (3, .int x3), (4, .int x4), (5, .int x5)] → W p l e (headSpec wsX7_canBook ({ frames := 1, cells := 0, slots := 0, locals := 24 } : Room)).room s m (([.ref a0z, .int x1z, .int x2z, .int x3z] : List Value)).toArray below meth c H locs 0 0 (MQ below (qs_Qi g (qs_F g SA s.heap.size) post) (([.ref a0z, .int x1z, .int x2z, .int x3z] : List Value)).toArray s 0 0 (qs_F g SA s.heap.size)) (F0 m 39 ls [])) → ∀ (S : qs_S) (a0 : Nat) (x2 : Int32) (x3 : Int32) (x5 : Int32) (H : Heap) (locs : List Loc) (ls : Array Slot), wp_X7_canBook_b191 g.2.2.2.2.2.2.1 g.2.2.2.2.2.2.2 post K39 S a0 x2 x3 x5 → qs_Gd g (qs_F g SA s.heap.size) s S H locs → lv_has ls 9 [(0, .ref a0), (2, .int x2), (3, .int x3), (5, .int x5)] → W p l e (headSpec wsX7_canBook ({ frames := 1, cells := 0, slots := 0, locals := 24 } : Room)).room s m (([.ref a0z, .int x1z, .int x2z, .int x3z] : List Value)).toArray below meth c H locs 0 0 (MQ below (qs_Qi g (qs_F g SA s.heap.size) post) (([.ref a0z, .int x1z, .int x2z, .int x3z] : List Value)).toArray s 0 0 (qs_F g SA s.heap.size)) (F0 m 191 ls []) := by
    intro K39 hK39 S a0 x2 x3 x5 H locs ls h hG hl
    unfold wp_X7_canBook_b191 at h
    refine lv_iconst (v := (1 : Int32)) hx hb dX7_canBook_191 (by decide +kernel) ?_
    refine lv_goto (tgt := 196) hx hb dX7_canBook_192 (by decide) ?_
    exact b196 K39 hK39 S a0 x2 x3 x5 (1 : Int32) _ _ ls h hG (lv_sub hl [0, 1, 2, 3] rfl)
  have b195 : ∀ (K39 : qs_S → Nat → Int32 → Int32 → Int32 → Int32 → Prop), (∀ (S : qs_S) (a0 : Nat) (x2 : Int32) (x3 : Int32) (x4 : Int32) (x5 : Int32) (H : Heap) (locs : List Loc) (ls : Array Slot), K39 S a0 x2 x3 x4 x5 → qs_Gd g (qs_F g SA s.heap.size) s S H locs → lv_has ls 9 [(0, .ref a0), (2, .int x2), (3, .int x3), (4, .int x4), (5, .int x5)] → W p l e (headSpec wsX7_canBook ({ frames := 1, cells := 0, slots := 0, locals := 24 } : Room)).room s m (([.ref a0z, .int x1z, .int x2z, .int x3z] : List Value)).toArray below meth c H locs 0 0 (MQ below (qs_Qi g (qs_F g SA s.heap.size) post) (([.ref a0z, .int x1z, .int x2z, .int x3z] : List Value)).toArray s 0 0 (qs_F g SA s.heap.size)) (F0 m 39 ls [])) → ∀ (S : qs_S) (a0 : Nat) (x2 : Int32) (x3 : Int32) (x5 : Int32) (H : Heap) (locs : List Loc) (ls : Array Slot), wp_X7_canBook_b195 g.2.2.2.2.2.2.1 g.2.2.2.2.2.2.2 post K39 S a0 x2 x3 x5 → qs_Gd g (qs_F g SA s.heap.size) s S H locs → lv_has ls 9 [(0, .ref a0), (2, .int x2), (3, .int x3), (5, .int x5)] → W p l e (headSpec wsX7_canBook ({ frames := 1, cells := 0, slots := 0, locals := 24 } : Room)).room s m (([.ref a0z, .int x1z, .int x2z, .int x3z] : List Value)).toArray below meth c H locs 0 0 (MQ below (qs_Qi g (qs_F g SA s.heap.size) post) (([.ref a0z, .int x1z, .int x2z, .int x3z] : List Value)).toArray s 0 0 (qs_F g SA s.heap.size)) (F0 m 195 ls []) := by
    intro K39 hK39 S a0 x2 x3 x5 H locs ls h hG hl
    unfold wp_X7_canBook_b195 at h
    refine lv_iconst (v := (0 : Int32)) hx hb dX7_canBook_195 (by decide +kernel) ?_
    exact b196 K39 hK39 S a0 x2 x3 x5 (0 : Int32) _ _ ls h hG (lv_sub hl [0, 1, 2, 3] rfl)
  have b169 : ∀ (K39 : qs_S → Nat → Int32 → Int32 → Int32 → Int32 → Prop), (∀ (S : qs_S) (a0 : Nat) (x2 : Int32) (x3 : Int32) (x4 : Int32) (x5 : Int32) (H : Heap) (locs : List Loc) (ls : Array Slot), K39 S a0 x2 x3 x4 x5 → qs_Gd g (qs_F g SA s.heap.size) s S H locs → lv_has ls 9 [(0, .ref a0), (2, .int x2), (3, .int x3), (4, .int x4), (5, .int x5)] → W p l e (headSpec wsX7_canBook ({ frames := 1, cells := 0, slots := 0, locals := 24 } : Room)).room s m (([.ref a0z, .int x1z, .int x2z, .int x3z] : List Value)).toArray below meth c H locs 0 0 (MQ below (qs_Qi g (qs_F g SA s.heap.size) post) (([.ref a0z, .int x1z, .int x2z, .int x3z] : List Value)).toArray s 0 0 (qs_F g SA s.heap.size)) (F0 m 39 ls [])) → ∀ (S : qs_S) (a0 : Nat) (x2 : Int32) (x3 : Int32) (x5 : Int32) (x8 : Int32) (H : Heap) (locs : List Loc) (ls : Array Slot), wp_X7_canBook_b169 g.2.2.2.2.2.2.1 g.2.2.2.2.2.2.2 post K39 S a0 x2 x3 x5 x8 → qs_Gd g (qs_F g SA s.heap.size) s S H locs → lv_has ls 9 [(0, .ref a0), (2, .int x2), (3, .int x3), (5, .int x5), (8, .int x8)] → W p l e (headSpec wsX7_canBook ({ frames := 1, cells := 0, slots := 0, locals := 24 } : Room)).room s m (([.ref a0z, .int x1z, .int x2z, .int x3z] : List Value)).toArray below meth c H locs 0 0 (MQ below (qs_Qi g (qs_F g SA s.heap.size) post) (([.ref a0z, .int x1z, .int x2z, .int x3z] : List Value)).toArray s 0 0 (qs_F g SA s.heap.size)) (F0 m 169 ls []) := by
    intro K39 hK39 S a0 x2 x3 x5 x8 H locs ls h hG hl
    unfold wp_X7_canBook_b169 at h
    refine lv_iload hx hb dX7_canBook_169 (lv_at hl 4 rfl) ?_
    refine lv_if_eq (tgt := 191) hx hb dX7_canBook_171 (by decide) (fun c2 => ?_) (fun c2 => ?_)
    · have h := h.1 c2
      exact b191 K39 hK39 S a0 x2 x3 x5 _ _ ls h hG (lv_sub hl [0, 1, 2, 3] rfl)
    · have h := h.2 c2
      refine lv_aload_n hx hb dX7_canBook_174 rfl (lv_at hl 0 rfl) ?_
      obtain ⟨⟨hL3, fK4⟩, h⟩ := h
      obtain ⟨q5, eq5, h⟩ := h
      refine qr_get (C := RX7) (T := TX7) (N := 35) (ci := 7) hx hb hts in7 hown hG hL3 fK4 (by decide) rfl 12 (by decide) rfl (hts (.fieldLink RX7 35 "QuayMeshModel" "booked" "[I") (List.mem_of_getElem? (i := 2) rfl)) (fun _ h9 => h9) (v := .ref q5) (qs_rf eq5) dX7_canBook_175 ?_
      refine lv_iload hx hb dX7_canBook_178 (lv_at hl 3 rfl) ?_
      obtain ⟨⟨hL6, fK7⟩, h⟩ := h
      obtain ⟨hi8, h⟩ := h
      refine qr_iald hx hb hG hL6 fK7 hi8 rfl dX7_canBook_180 ?_
      refine lv_topi (fun v9 ev9 => ?_)
      have h := h v9 ev9
      refine lv_iconst (v := (0 : Int32)) hx hb dX7_canBook_181 (by decide +kernel) ?_
      refine lv_iload_n hx hb dX7_canBook_182 rfl (lv_at hl 1 rfl) ?_
      refine lv_iconst (v := (1 : Int32)) hx hb dX7_canBook_183 (by decide +kernel) ?_
      refine lv_isub hx hb dX7_canBook_184 ?_
      refine lv_topi (fun v10 ev10 => ?_)
      have h := h v10 ev10
      refine qc_i hG (va_runS (As := [.int v9, .int (0 : Int32), .int v10]) (rest := []) ⟨hx, hb, hml, hown, hts⟩ (c_X7_in l g _ S v9 (0 : Int32) v10 h) (va_cwS 3 hts gX7_canBook_X7_in rfl rfl rfl (by decide +kernel) ⟨(Nat.le_of_ble_eq_true rfl), (Nat.le_of_ble_eq_true rfl)⟩) ⟨qs_Pc.blind _ _ _ _, hG.pre _⟩ rfl rfl hl.1 rfl (lv_room (Nat.le_of_ble_eq_true rfl)) dX7_canBook_185 ⟨Nat.zero_le _, Nat.zero_le _⟩) (fun v14 S13 H locs h hG => ?_)
      refine lv_if_ne (tgt := 195) hx hb dX7_canBook_188 (by decide) (fun c15 => ?_) (fun c15 => ?_)
      · have h := h.1 c15
        exact b195 K39 hK39 S13 a0 x2 x3 x5 _ _ ls h hG (lv_sub hl [0, 1, 2, 3] rfl)
      · have h := h.2 c15
        exact b191 K39 hK39 S13 a0 x2 x3 x5 _ _ ls h hG (lv_sub hl [0, 1, 2, 3] rfl)
  have b147 : ∀ (K39 : qs_S → Nat → Int32 → Int32 → Int32 → Int32 → Prop), (∀ (S : qs_S) (a0 : Nat) (x2 : Int32) (x3 : Int32) (x4 : Int32) (x5 : Int32) (H : Heap) (locs : List Loc) (ls : Array Slot), K39 S a0 x2 x3 x4 x5 → qs_Gd g (qs_F g SA s.heap.size) s S H locs → lv_has ls 9 [(0, .ref a0), (2, .int x2), (3, .int x3), (4, .int x4), (5, .int x5)] → W p l e (headSpec wsX7_canBook ({ frames := 1, cells := 0, slots := 0, locals := 24 } : Room)).room s m (([.ref a0z, .int x1z, .int x2z, .int x3z] : List Value)).toArray below meth c H locs 0 0 (MQ below (qs_Qi g (qs_F g SA s.heap.size) post) (([.ref a0z, .int x1z, .int x2z, .int x3z] : List Value)).toArray s 0 0 (qs_F g SA s.heap.size)) (F0 m 39 ls [])) → ∀ (S : qs_S) (a0 : Nat) (x2 : Int32) (x3 : Int32) (x5 : Int32) (x7 : Int32) (s0 : Int32) (H : Heap) (locs : List Loc) (ls : Array Slot), wp_X7_canBook_b147 g.2.2.2.2.2.2.1 g.2.2.2.2.2.2.2 post K39 S a0 x2 x3 x5 x7 s0 → qs_Gd g (qs_F g SA s.heap.size) s S H locs → lv_has ls 9 [(0, .ref a0), (2, .int x2), (3, .int x3), (5, .int x5), (7, .int x7)] → W p l e (headSpec wsX7_canBook ({ frames := 1, cells := 0, slots := 0, locals := 24 } : Room)).room s m (([.ref a0z, .int x1z, .int x2z, .int x3z] : List Value)).toArray below meth c H locs 0 0 (MQ below (qs_Qi g (qs_F g SA s.heap.size) post) (([.ref a0z, .int x1z, .int x2z, .int x3z] : List Value)).toArray s 0 0 (qs_F g SA s.heap.size)) (F0 m 147 ls [.int s0]) := by
    intro K39 hK39 S a0 x2 x3 x5 x7 s0 H locs ls h hG hl
    unfold wp_X7_canBook_b147 at h
    refine lv_istore (lv' := [(8, .int s0), (0, .ref a0), (2, .int x2), (3, .int x3), (5, .int x5), (7, .int x7)]) hx hb dX7_canBook_147 hl (by decide) rfl (fun ls hl => ?_)
    refine lv_iload hx hb dX7_canBook_149 (lv_at hl 5 rfl) ?_
    refine lv_if_eq (tgt := 169) hx hb dX7_canBook_151 (by decide) (fun c16 => ?_) (fun c16 => ?_)
    · have h := h.1 c16
      exact b169 K39 hK39 S a0 x2 x3 x5 s0 _ _ ls h hG (lv_sub hl [1, 2, 3, 4, 0] rfl)
    · have h := h.2 c16
      refine lv_aload_n hx hb dX7_canBook_154 rfl (lv_at hl 1 rfl) ?_
      obtain ⟨⟨hL17, fK18⟩, h⟩ := h
      obtain ⟨q19, eq19, h⟩ := h
      refine qr_get (C := RX7) (T := TX7) (N := 35) (ci := 7) hx hb hts in7 hown hG hL17 fK18 (by decide) rfl 12 (by decide) rfl (hts (.fieldLink RX7 35 "QuayMeshModel" "booked" "[I") (List.mem_of_getElem? (i := 2) rfl)) (fun _ h9 => h9) (v := .ref q19) (qs_rf eq19) dX7_canBook_155 ?_
      refine lv_iload hx hb dX7_canBook_158 (lv_at hl 4 rfl) ?_
      obtain ⟨⟨hL20, fK21⟩, h⟩ := h
      obtain ⟨hi22, h⟩ := h
      refine qr_iald hx hb hG hL20 fK21 hi22 rfl dX7_canBook_160 ?_
      refine lv_topi (fun v23 ev23 => ?_)
      have h := h v23 ev23
      refine lv_iconst (v := (0 : Int32)) hx hb dX7_canBook_161 (by decide +kernel) ?_
      refine lv_iload_n hx hb dX7_canBook_162 rfl (lv_at hl 2 rfl) ?_
      refine qc_i hG (va_runS (As := [.int v23, .int (0 : Int32), .int x2]) (rest := []) ⟨hx, hb, hml, hown, hts⟩ (c_X7_in l g _ S v23 (0 : Int32) x2 h) (va_cwS 3 hts gX7_canBook_X7_in rfl rfl rfl (by decide +kernel) ⟨(Nat.le_of_ble_eq_true rfl), (Nat.le_of_ble_eq_true rfl)⟩) ⟨qs_Pc.blind _ _ _ _, hG.pre _⟩ rfl rfl hl.1 rfl (lv_room (Nat.le_of_ble_eq_true rfl)) dX7_canBook_163 ⟨Nat.zero_le _, Nat.zero_le _⟩) (fun v27 S26 H locs h hG => ?_)
      refine lv_if_eq (tgt := 195) hx hb dX7_canBook_166 (by decide) (fun c28 => ?_) (fun c28 => ?_)
      · have h := h.1 c28
        exact b195 K39 hK39 S26 a0 x2 x3 x5 _ _ ls h hG (lv_sub hl [1, 2, 3, 4] rfl)
      · have h := h.2 c28
        exact b169 K39 hK39 S26 a0 x2 x3 x5 s0 _ _ ls h hG (lv_sub hl [1, 2, 3, 4, 0] rfl)
  have b146 : ∀ (K39 : qs_S → Nat → Int32 → Int32 → Int32 → Int32 → Prop), (∀ (S : qs_S) (a0 : Nat) (x2 : Int32) (x3 : Int32) (x4 : Int32) (x5 : Int32) (H : Heap) (locs : List Loc) (ls : Array Slot), K39 S a0 x2 x3 x4 x5 → qs_Gd g (qs_F g SA s.heap.size) s S H locs → lv_has ls 9 [(0, .ref a0), (2, .int x2), (3, .int x3), (4, .int x4), (5, .int x5)] → W p l e (headSpec wsX7_canBook ({ frames := 1, cells := 0, slots := 0, locals := 24 } : Room)).room s m (([.ref a0z, .int x1z, .int x2z, .int x3z] : List Value)).toArray below meth c H locs 0 0 (MQ below (qs_Qi g (qs_F g SA s.heap.size) post) (([.ref a0z, .int x1z, .int x2z, .int x3z] : List Value)).toArray s 0 0 (qs_F g SA s.heap.size)) (F0 m 39 ls [])) → ∀ (S : qs_S) (a0 : Nat) (x2 : Int32) (x3 : Int32) (x5 : Int32) (x7 : Int32) (H : Heap) (locs : List Loc) (ls : Array Slot), wp_X7_canBook_b146 g.2.2.2.2.2.2.1 g.2.2.2.2.2.2.2 post K39 S a0 x2 x3 x5 x7 → qs_Gd g (qs_F g SA s.heap.size) s S H locs → lv_has ls 9 [(0, .ref a0), (2, .int x2), (3, .int x3), (5, .int x5), (7, .int x7)] → W p l e (headSpec wsX7_canBook ({ frames := 1, cells := 0, slots := 0, locals := 24 } : Room)).room s m (([.ref a0z, .int x1z, .int x2z, .int x3z] : List Value)).toArray below meth c H locs 0 0 (MQ below (qs_Qi g (qs_F g SA s.heap.size) post) (([.ref a0z, .int x1z, .int x2z, .int x3z] : List Value)).toArray s 0 0 (qs_F g SA s.heap.size)) (F0 m 146 ls []) := by
    intro K39 hK39 S a0 x2 x3 x5 x7 H locs ls h hG hl
    unfold wp_X7_canBook_b146 at h
    refine lv_iconst (v := (0 : Int32)) hx hb dX7_canBook_146 (by decide +kernel) ?_
    exact b147 K39 hK39 S a0 x2 x3 x5 x7 (0 : Int32) _ _ ls h hG (lv_sub hl [0, 1, 2, 3, 4] rfl)
  have b119 : ∀ (K39 : qs_S → Nat → Int32 → Int32 → Int32 → Int32 → Prop), (∀ (S : qs_S) (a0 : Nat) (x2 : Int32) (x3 : Int32) (x4 : Int32) (x5 : Int32) (H : Heap) (locs : List Loc) (ls : Array Slot), K39 S a0 x2 x3 x4 x5 → qs_Gd g (qs_F g SA s.heap.size) s S H locs → lv_has ls 9 [(0, .ref a0), (2, .int x2), (3, .int x3), (4, .int x4), (5, .int x5)] → W p l e (headSpec wsX7_canBook ({ frames := 1, cells := 0, slots := 0, locals := 24 } : Room)).room s m (([.ref a0z, .int x1z, .int x2z, .int x3z] : List Value)).toArray below meth c H locs 0 0 (MQ below (qs_Qi g (qs_F g SA s.heap.size) post) (([.ref a0z, .int x1z, .int x2z, .int x3z] : List Value)).toArray s 0 0 (qs_F g SA s.heap.size)) (F0 m 39 ls [])) → ∀ (S : qs_S) (a0 : Nat) (x2 : Int32) (x3 : Int32) (x5 : Int32) (x6 : Int32) (s0 : Int32) (H : Heap) (locs : List Loc) (ls : Array Slot), wp_X7_canBook_b119 g.2.2.2.2.2.2.1 g.2.2.2.2.2.2.2 post K39 S a0 x2 x3 x5 x6 s0 → qs_Gd g (qs_F g SA s.heap.size) s S H locs → lv_has ls 9 [(0, .ref a0), (2, .int x2), (3, .int x3), (5, .int x5), (6, .int x6)] → W p l e (headSpec wsX7_canBook ({ frames := 1, cells := 0, slots := 0, locals := 24 } : Room)).room s m (([.ref a0z, .int x1z, .int x2z, .int x3z] : List Value)).toArray below meth c H locs 0 0 (MQ below (qs_Qi g (qs_F g SA s.heap.size) post) (([.ref a0z, .int x1z, .int x2z, .int x3z] : List Value)).toArray s 0 0 (qs_F g SA s.heap.size)) (F0 m 119 ls [.int s0]) := by
    intro K39 hK39 S a0 x2 x3 x5 x6 s0 H locs ls h hG hl
    unfold wp_X7_canBook_b119 at h
    refine lv_istore (lv' := [(7, .int s0), (0, .ref a0), (2, .int x2), (3, .int x3), (5, .int x5), (6, .int x6)]) hx hb dX7_canBook_119 hl (by decide) rfl (fun ls hl => ?_)
    refine lv_iload hx hb dX7_canBook_121 (lv_at hl 5 rfl) ?_
    refine lv_if_eq (tgt := 146) hx hb dX7_canBook_123 (by decide) (fun c29 => ?_) (fun c29 => ?_)
    · have h := h.1 c29
      exact b146 K39 hK39 S a0 x2 x3 x5 s0 _ _ ls h hG (lv_sub hl [1, 2, 3, 4, 0] rfl)
    · have h := h.2 c29
      refine lv_aload_n hx hb dX7_canBook_126 rfl (lv_at hl 1 rfl) ?_
      obtain ⟨⟨hL30, fK31⟩, h⟩ := h
      obtain ⟨q32, eq32, h⟩ := h
      refine qr_get (C := RX7) (T := TX7) (N := 35) (ci := 7) hx hb hts in7 hown hG hL30 fK31 (by decide) rfl 15 (by decide) rfl (hts (.fieldLink RX7 44 "QuayMeshModel" "level" "[I") (List.mem_of_getElem? (i := 5) rfl)) (fun _ h9 => h9) (v := .ref q32) (qs_rf eq32) dX7_canBook_127 ?_
      refine lv_iload hx hb dX7_canBook_130 (lv_at hl 4 rfl) ?_
      obtain ⟨⟨hL33, fK34⟩, h⟩ := h
      obtain ⟨hi35, h⟩ := h
      refine qr_iald hx hb hG hL33 fK34 hi35 rfl dX7_canBook_132 ?_
      refine lv_topi (fun v36 ev36 => ?_)
      have h := h v36 ev36
      refine lv_aload_n hx hb dX7_canBook_133 rfl (lv_at hl 1 rfl) ?_
      obtain ⟨q37, eq37, h⟩ := h
      refine qr_get (C := RX7) (T := TX7) (N := 35) (ci := 7) hx hb hts in7 hown hG hL30 fK31 (by decide) rfl 15 (by decide) rfl (hts (.fieldLink RX7 44 "QuayMeshModel" "level" "[I") (List.mem_of_getElem? (i := 5) rfl)) (fun _ h9 => h9) (v := .ref q37) (qs_rf eq37) dX7_canBook_134 ?_
      refine lv_iload_n hx hb dX7_canBook_137 rfl (lv_at hl 3 rfl) ?_
      obtain ⟨⟨hL38, fK39⟩, h⟩ := h
      obtain ⟨hi40, h⟩ := h
      refine qr_iald hx hb hG hL38 fK39 hi40 rfl dX7_canBook_138 ?_
      refine lv_topi (fun v41 ev41 => ?_)
      have h := h v41 ev41
      refine lv_icmp_ge (tgt := 146) hx hb dX7_canBook_139 (by decide) (fun c42 => ?_) (fun c42 => ?_)
      · have h := h.1 c42
        exact b146 K39 hK39 S a0 x2 x3 x5 s0 _ _ ls h hG (lv_sub hl [1, 2, 3, 4, 0] rfl)
      · have h := h.2 c42
        refine lv_iconst (v := (1 : Int32)) hx hb dX7_canBook_142 (by decide +kernel) ?_
        refine lv_goto (tgt := 147) hx hb dX7_canBook_143 (by decide) ?_
        exact b147 K39 hK39 S a0 x2 x3 x5 s0 (1 : Int32) _ _ ls h hG (lv_sub hl [1, 2, 3, 4, 0] rfl)
  have b118 : ∀ (K39 : qs_S → Nat → Int32 → Int32 → Int32 → Int32 → Prop), (∀ (S : qs_S) (a0 : Nat) (x2 : Int32) (x3 : Int32) (x4 : Int32) (x5 : Int32) (H : Heap) (locs : List Loc) (ls : Array Slot), K39 S a0 x2 x3 x4 x5 → qs_Gd g (qs_F g SA s.heap.size) s S H locs → lv_has ls 9 [(0, .ref a0), (2, .int x2), (3, .int x3), (4, .int x4), (5, .int x5)] → W p l e (headSpec wsX7_canBook ({ frames := 1, cells := 0, slots := 0, locals := 24 } : Room)).room s m (([.ref a0z, .int x1z, .int x2z, .int x3z] : List Value)).toArray below meth c H locs 0 0 (MQ below (qs_Qi g (qs_F g SA s.heap.size) post) (([.ref a0z, .int x1z, .int x2z, .int x3z] : List Value)).toArray s 0 0 (qs_F g SA s.heap.size)) (F0 m 39 ls [])) → ∀ (S : qs_S) (a0 : Nat) (x2 : Int32) (x3 : Int32) (x5 : Int32) (x6 : Int32) (H : Heap) (locs : List Loc) (ls : Array Slot), wp_X7_canBook_b118 g.2.2.2.2.2.2.1 g.2.2.2.2.2.2.2 post K39 S a0 x2 x3 x5 x6 → qs_Gd g (qs_F g SA s.heap.size) s S H locs → lv_has ls 9 [(0, .ref a0), (2, .int x2), (3, .int x3), (5, .int x5), (6, .int x6)] → W p l e (headSpec wsX7_canBook ({ frames := 1, cells := 0, slots := 0, locals := 24 } : Room)).room s m (([.ref a0z, .int x1z, .int x2z, .int x3z] : List Value)).toArray below meth c H locs 0 0 (MQ below (qs_Qi g (qs_F g SA s.heap.size) post) (([.ref a0z, .int x1z, .int x2z, .int x3z] : List Value)).toArray s 0 0 (qs_F g SA s.heap.size)) (F0 m 118 ls []) := by
    intro K39 hK39 S a0 x2 x3 x5 x6 H locs ls h hG hl
    unfold wp_X7_canBook_b118 at h
    refine lv_iconst (v := (0 : Int32)) hx hb dX7_canBook_118 (by decide +kernel) ?_
    exact b119 K39 hK39 S a0 x2 x3 x5 x6 (0 : Int32) _ _ ls h hG (lv_sub hl [0, 1, 2, 3, 4] rfl)
  have b91 : ∀ (K39 : qs_S → Nat → Int32 → Int32 → Int32 → Int32 → Prop), (∀ (S : qs_S) (a0 : Nat) (x2 : Int32) (x3 : Int32) (x4 : Int32) (x5 : Int32) (H : Heap) (locs : List Loc) (ls : Array Slot), K39 S a0 x2 x3 x4 x5 → qs_Gd g (qs_F g SA s.heap.size) s S H locs → lv_has ls 9 [(0, .ref a0), (2, .int x2), (3, .int x3), (4, .int x4), (5, .int x5)] → W p l e (headSpec wsX7_canBook ({ frames := 1, cells := 0, slots := 0, locals := 24 } : Room)).room s m (([.ref a0z, .int x1z, .int x2z, .int x3z] : List Value)).toArray below meth c H locs 0 0 (MQ below (qs_Qi g (qs_F g SA s.heap.size) post) (([.ref a0z, .int x1z, .int x2z, .int x3z] : List Value)).toArray s 0 0 (qs_F g SA s.heap.size)) (F0 m 39 ls [])) → ∀ (S : qs_S) (a0 : Nat) (x2 : Int32) (x3 : Int32) (x5 : Int32) (s0 : Int32) (H : Heap) (locs : List Loc) (ls : Array Slot), wp_X7_canBook_b91 g.2.2.2.2.2.2.1 g.2.2.2.2.2.2.2 post K39 S a0 x2 x3 x5 s0 → qs_Gd g (qs_F g SA s.heap.size) s S H locs → lv_has ls 9 [(0, .ref a0), (2, .int x2), (3, .int x3), (5, .int x5)] → W p l e (headSpec wsX7_canBook ({ frames := 1, cells := 0, slots := 0, locals := 24 } : Room)).room s m (([.ref a0z, .int x1z, .int x2z, .int x3z] : List Value)).toArray below meth c H locs 0 0 (MQ below (qs_Qi g (qs_F g SA s.heap.size) post) (([.ref a0z, .int x1z, .int x2z, .int x3z] : List Value)).toArray s 0 0 (qs_F g SA s.heap.size)) (F0 m 91 ls [.int s0]) := by
    intro K39 hK39 S a0 x2 x3 x5 s0 H locs ls h hG hl
    unfold wp_X7_canBook_b91 at h
    refine lv_istore (lv' := [(6, .int s0), (0, .ref a0), (2, .int x2), (3, .int x3), (5, .int x5)]) hx hb dX7_canBook_91 hl (by decide) rfl (fun ls hl => ?_)
    refine lv_iload hx hb dX7_canBook_93 (lv_at hl 0 rfl) ?_
    refine lv_if_eq (tgt := 118) hx hb dX7_canBook_95 (by decide) (fun c43 => ?_) (fun c43 => ?_)
    · have h := h.1 c43
      exact b118 K39 hK39 S a0 x2 x3 x5 s0 _ _ ls h hG (lv_sub hl [1, 2, 3, 4, 0] rfl)
    · have h := h.2 c43
      refine lv_aload_n hx hb dX7_canBook_98 rfl (lv_at hl 1 rfl) ?_
      obtain ⟨⟨hL44, fK45⟩, h⟩ := h
      obtain ⟨q46, eq46, h⟩ := h
      refine qr_get (C := RX7) (T := TX7) (N := 35) (ci := 7) hx hb hts in7 hown hG hL44 fK45 (by decide) rfl 15 (by decide) rfl (hts (.fieldLink RX7 44 "QuayMeshModel" "level" "[I") (List.mem_of_getElem? (i := 5) rfl)) (fun _ h9 => h9) (v := .ref q46) (qs_rf eq46) dX7_canBook_99 ?_
      refine lv_iload hx hb dX7_canBook_102 (lv_at hl 4 rfl) ?_
      obtain ⟨⟨hL47, fK48⟩, h⟩ := h
      obtain ⟨hi49, h⟩ := h
      refine qr_iald hx hb hG hL47 fK48 hi49 rfl dX7_canBook_104 ?_
      refine lv_topi (fun v50 ev50 => ?_)
      have h := h v50 ev50
      refine lv_aload_n hx hb dX7_canBook_105 rfl (lv_at hl 1 rfl) ?_
      obtain ⟨q51, eq51, h⟩ := h
      refine qr_get (C := RX7) (T := TX7) (N := 35) (ci := 7) hx hb hts in7 hown hG hL44 fK45 (by decide) rfl 15 (by decide) rfl (hts (.fieldLink RX7 44 "QuayMeshModel" "level" "[I") (List.mem_of_getElem? (i := 5) rfl)) (fun _ h9 => h9) (v := .ref q51) (qs_rf eq51) dX7_canBook_106 ?_
      refine lv_iload_n hx hb dX7_canBook_109 rfl (lv_at hl 3 rfl) ?_
      obtain ⟨⟨hL52, fK53⟩, h⟩ := h
      obtain ⟨hi54, h⟩ := h
      refine qr_iald hx hb hG hL52 fK53 hi54 rfl dX7_canBook_110 ?_
      refine lv_topi (fun v55 ev55 => ?_)
      have h := h v55 ev55
      refine lv_icmp_le (tgt := 118) hx hb dX7_canBook_111 (by decide) (fun c56 => ?_) (fun c56 => ?_)
      · have h := h.1 c56
        exact b118 K39 hK39 S a0 x2 x3 x5 s0 _ _ ls h hG (lv_sub hl [1, 2, 3, 4, 0] rfl)
      · have h := h.2 c56
        refine lv_iconst (v := (1 : Int32)) hx hb dX7_canBook_114 (by decide +kernel) ?_
        refine lv_goto (tgt := 119) hx hb dX7_canBook_115 (by decide) ?_
        exact b119 K39 hK39 S a0 x2 x3 x5 s0 (1 : Int32) _ _ ls h hG (lv_sub hl [1, 2, 3, 4, 0] rfl)
  have b90 : ∀ (K39 : qs_S → Nat → Int32 → Int32 → Int32 → Int32 → Prop), (∀ (S : qs_S) (a0 : Nat) (x2 : Int32) (x3 : Int32) (x4 : Int32) (x5 : Int32) (H : Heap) (locs : List Loc) (ls : Array Slot), K39 S a0 x2 x3 x4 x5 → qs_Gd g (qs_F g SA s.heap.size) s S H locs → lv_has ls 9 [(0, .ref a0), (2, .int x2), (3, .int x3), (4, .int x4), (5, .int x5)] → W p l e (headSpec wsX7_canBook ({ frames := 1, cells := 0, slots := 0, locals := 24 } : Room)).room s m (([.ref a0z, .int x1z, .int x2z, .int x3z] : List Value)).toArray below meth c H locs 0 0 (MQ below (qs_Qi g (qs_F g SA s.heap.size) post) (([.ref a0z, .int x1z, .int x2z, .int x3z] : List Value)).toArray s 0 0 (qs_F g SA s.heap.size)) (F0 m 39 ls [])) → ∀ (S : qs_S) (a0 : Nat) (x2 : Int32) (x3 : Int32) (x5 : Int32) (H : Heap) (locs : List Loc) (ls : Array Slot), wp_X7_canBook_b90 g.2.2.2.2.2.2.1 g.2.2.2.2.2.2.2 post K39 S a0 x2 x3 x5 → qs_Gd g (qs_F g SA s.heap.size) s S H locs → lv_has ls 9 [(0, .ref a0), (2, .int x2), (3, .int x3), (5, .int x5)] → W p l e (headSpec wsX7_canBook ({ frames := 1, cells := 0, slots := 0, locals := 24 } : Room)).room s m (([.ref a0z, .int x1z, .int x2z, .int x3z] : List Value)).toArray below meth c H locs 0 0 (MQ below (qs_Qi g (qs_F g SA s.heap.size) post) (([.ref a0z, .int x1z, .int x2z, .int x3z] : List Value)).toArray s 0 0 (qs_F g SA s.heap.size)) (F0 m 90 ls []) := by
    intro K39 hK39 S a0 x2 x3 x5 H locs ls h hG hl
    unfold wp_X7_canBook_b90 at h
    refine lv_iconst (v := (0 : Int32)) hx hb dX7_canBook_90 (by decide +kernel) ?_
    exact b91 K39 hK39 S a0 x2 x3 x5 (0 : Int32) _ _ ls h hG (lv_sub hl [0, 1, 2, 3] rfl)
  have b204 : ∀ (S : qs_S) (x4 : Int32) (H : Heap) (locs : List Loc) (ls : Array Slot), wp_X7_canBook_b204 g.2.2.2.2.2.2.1 g.2.2.2.2.2.2.2 post S x4 → qs_Gd g (qs_F g SA s.heap.size) s S H locs → lv_has ls 9 [(4, .int x4)] → W p l e (headSpec wsX7_canBook ({ frames := 1, cells := 0, slots := 0, locals := 24 } : Room)).room s m (([.ref a0z, .int x1z, .int x2z, .int x3z] : List Value)).toArray below meth c H locs 0 0 (MQ below (qs_Qi g (qs_F g SA s.heap.size) post) (([.ref a0z, .int x1z, .int x2z, .int x3z] : List Value)).toArray s 0 0 (qs_F g SA s.heap.size)) (F0 m 204 ls []) := by
    intro S x4 H locs ls h hG hl
    unfold wp_X7_canBook_b204 at h
    refine lv_iload hx hb dX7_canBook_204 (lv_at hl 0 rfl) ?_
    obtain ⟨z57, h⟩ := h
    exact qe_z hx hb hr hlk z57 hG h (Nat.le_refl _) (Nat.le_refl _) dX7_canBook_206
  have c39 : ∀ (K39 : qs_S → Nat → Int32 → Int32 → Int32 → Int32 → Prop), (∀ (S : qs_S) (a0 : Nat) (x2 : Int32) (x3 : Int32) (x4 : Int32) (x5 : Int32) (H : Heap) (locs : List Loc) (ls : Array Slot), K39 S a0 x2 x3 x4 x5 → qs_Gd g (qs_F g SA s.heap.size) s S H locs → lv_has ls 9 [(0, .ref a0), (2, .int x2), (3, .int x3), (4, .int x4), (5, .int x5)] → W p l e (headSpec wsX7_canBook ({ frames := 1, cells := 0, slots := 0, locals := 24 } : Room)).room s m (([.ref a0z, .int x1z, .int x2z, .int x3z] : List Value)).toArray below meth c H locs 0 0 (MQ below (qs_Qi g (qs_F g SA s.heap.size) post) (([.ref a0z, .int x1z, .int x2z, .int x3z] : List Value)).toArray s 0 0 (qs_F g SA s.heap.size)) (F0 m 39 ls [])) → ∀ (S : qs_S) (a0 : Nat) (x2 : Int32) (x3 : Int32) (x4 : Int32) (x5 : Int32) (H : Heap) (locs : List Loc) (ls : Array Slot), wp_X7_canBook_c39 g.2.2.2.2.2.2.1 g.2.2.2.2.2.2.2 post K39 S a0 x2 x3 x4 x5 → qs_Gd g (qs_F g SA s.heap.size) s S H locs → lv_has ls 9 [(0, .ref a0), (2, .int x2), (3, .int x3), (4, .int x4), (5, .int x5)] → W p l e (headSpec wsX7_canBook ({ frames := 1, cells := 0, slots := 0, locals := 24 } : Room)).room s m (([.ref a0z, .int x1z, .int x2z, .int x3z] : List Value)).toArray below meth c H locs 0 0 (MQ below (qs_Qi g (qs_F g SA s.heap.size) post) (([.ref a0z, .int x1z, .int x2z, .int x3z] : List Value)).toArray s 0 0 (qs_F g SA s.heap.size)) (F0 m 39 ls []) := by
    intro K39 hK39 S a0 x2 x3 x4 x5 H locs ls h hG hl
    unfold wp_X7_canBook_c39 at h
    refine lv_iload hx hb dX7_canBook_39 (lv_at hl 4 rfl) ?_
    refine lv_aload_n hx hb dX7_canBook_41 rfl (lv_at hl 0 rfl) ?_
    obtain ⟨⟨hL58, fK59⟩, h⟩ := h
    refine qr_get (C := RX7) (T := TX7) (N := 35) (ci := 7) hx hb hts in7 hown hG hL58 fK59 (by decide) rfl 6 (by decide) rfl (hts (.fieldLink RX7 106 "QuayMeshModel" "boxes" "I") (List.mem_of_getElem? (i := 3) rfl)) (fun _ h9 => h9) (v := .int (qs_I S 6 a0)) rfl dX7_canBook_42 ?_
    refine lv_topi (fun v60 ev60 => ?_)
    have h := h v60 ev60
    refine lv_icmp_ge (tgt := 204) hx hb dX7_canBook_45 (by decide) (fun c61 => ?_) (fun c61 => ?_)
    · have h := h.1 c61
      exact b204 S x4 _ _ ls h hG (lv_sub hl [3] rfl)
    · have h := h.2 c61
      refine lv_iload hx hb dX7_canBook_48 (lv_at hl 3 rfl) ?_
      refine lv_if_eq (tgt := 204) hx hb dX7_canBook_50 (by decide) (fun c62 => ?_) (fun c62 => ?_)
      · have h := h.1 c62
        exact b204 S x4 _ _ ls h hG (lv_sub hl [3] rfl)
      · have h := h.2 c62
        refine lv_iload hx hb dX7_canBook_53 (lv_at hl 4 rfl) ?_
        refine lv_iload_n hx hb dX7_canBook_55 rfl (lv_at hl 2 rfl) ?_
        refine lv_icmp_eq (tgt := 90) hx hb dX7_canBook_56 (by decide) (fun c63 => ?_) (fun c63 => ?_)
        · have h := h.1 c63
          exact b90 K39 hK39 S a0 x2 x3 x5 _ _ ls h hG (lv_sub hl [0, 1, 2, 4] rfl)
        · have h := h.2 c63
          refine lv_aload_n hx hb dX7_canBook_59 rfl (lv_at hl 0 rfl) ?_
          obtain ⟨q64, eq64, h⟩ := h
          refine qr_get (C := RX7) (T := TX7) (N := 35) (ci := 7) hx hb hts in7 hown hG hL58 fK59 (by decide) rfl 9 (by decide) rfl (hts (.fieldLink RX7 26 "QuayMeshModel" "where" "[I") (List.mem_of_getElem? (i := 1) rfl)) (fun _ h9 => h9) (v := .ref q64) (qs_rf eq64) dX7_canBook_60 ?_
          refine lv_iload hx hb dX7_canBook_63 (lv_at hl 4 rfl) ?_
          obtain ⟨⟨hL65, fK66⟩, h⟩ := h
          obtain ⟨hi67, h⟩ := h
          refine qr_iald hx hb hG hL65 fK66 hi67 rfl dX7_canBook_65 ?_
          refine lv_topi (fun v68 ev68 => ?_)
          have h := h v68 ev68
          refine lv_iconst (v := (3 : Int32)) hx hb dX7_canBook_66 (by decide +kernel) ?_
          refine lv_icmp_ne (tgt := 90) hx hb dX7_canBook_67 (by decide) (fun c69 => ?_) (fun c69 => ?_)
          · have h := h.1 c69
            exact b90 K39 hK39 S a0 x2 x3 x5 _ _ ls h hG (lv_sub hl [0, 1, 2, 4] rfl)
          · have h := h.2 c69
            refine lv_aload_n hx hb dX7_canBook_70 rfl (lv_at hl 0 rfl) ?_
            obtain ⟨q70, eq70, h⟩ := h
            refine qr_get (C := RX7) (T := TX7) (N := 35) (ci := 7) hx hb hts in7 hown hG hL58 fK59 (by decide) rfl 10 (by decide) rfl (hts (.fieldLink RX7 29 "QuayMeshModel" "at" "[I") (List.mem_of_getElem? (i := 4) rfl)) (fun _ h9 => h9) (v := .ref q70) (qs_rf eq70) dX7_canBook_71 ?_
            refine lv_iload hx hb dX7_canBook_74 (lv_at hl 4 rfl) ?_
            obtain ⟨⟨hL71, fK72⟩, h⟩ := h
            obtain ⟨hi73, h⟩ := h
            refine qr_iald hx hb hG hL71 fK72 hi73 rfl dX7_canBook_76 ?_
            refine lv_topi (fun v74 ev74 => ?_)
            have h := h v74 ev74
            refine lv_aload_n hx hb dX7_canBook_77 rfl (lv_at hl 0 rfl) ?_
            obtain ⟨q75, eq75, h⟩ := h
            refine qr_get (C := RX7) (T := TX7) (N := 35) (ci := 7) hx hb hts in7 hown hG hL58 fK59 (by decide) rfl 10 (by decide) rfl (hts (.fieldLink RX7 29 "QuayMeshModel" "at" "[I") (List.mem_of_getElem? (i := 4) rfl)) (fun _ h9 => h9) (v := .ref q75) (qs_rf eq75) dX7_canBook_78 ?_
            refine lv_iload_n hx hb dX7_canBook_81 rfl (lv_at hl 2 rfl) ?_
            obtain ⟨⟨hL76, fK77⟩, h⟩ := h
            obtain ⟨hi78, h⟩ := h
            refine qr_iald hx hb hG hL76 fK77 hi78 rfl dX7_canBook_82 ?_
            refine lv_topi (fun v79 ev79 => ?_)
            have h := h v79 ev79
            refine lv_icmp_ne (tgt := 90) hx hb dX7_canBook_83 (by decide) (fun c80 => ?_) (fun c80 => ?_)
            · have h := h.1 c80
              exact b90 K39 hK39 S a0 x2 x3 x5 _ _ ls h hG (lv_sub hl [0, 1, 2, 4] rfl)
            · have h := h.2 c80
              refine lv_iconst (v := (1 : Int32)) hx hb dX7_canBook_86 (by decide +kernel) ?_
              refine lv_goto (tgt := 91) hx hb dX7_canBook_87 (by decide) ?_
              exact b91 K39 hK39 S a0 x2 x3 x5 (1 : Int32) _ _ ls h hG (lv_sub hl [0, 1, 2, 4] rfl)
  have b39 : ∀ n9 : Nat, ∀ (S : qs_S) (a0 : Nat) (x2 : Int32) (x3 : Int32) (x4 : Int32) (x5 : Int32) (H : Heap) (locs : List Loc) (ls : Array Slot), wp_X7_canBook_b39 g.2.2.2.2.2.2.1 g.2.2.2.2.2.2.2 post n9 S a0 x2 x3 x4 x5 → qs_Gd g (qs_F g SA s.heap.size) s S H locs → lv_has ls 9 [(0, .ref a0), (2, .int x2), (3, .int x3), (4, .int x4), (5, .int x5)] → W p l e (headSpec wsX7_canBook ({ frames := 1, cells := 0, slots := 0, locals := 24 } : Room)).room s m (([.ref a0z, .int x1z, .int x2z, .int x3z] : List Value)).toArray below meth c H locs 0 0 (MQ below (qs_Qi g (qs_F g SA s.heap.size) post) (([.ref a0z, .int x1z, .int x2z, .int x3z] : List Value)).toArray s 0 0 (qs_F g SA s.heap.size)) (F0 m 39 ls []) := by
    intro n9
    induction n9 with
    | zero =>
      intro S a0 x2 x3 x4 x5 H locs ls h hG hl
      exact False.elim h
    | succ n9 ih => exact c39 _ ih
  have b34 : ∀ (S : qs_S) (a0 : Nat) (x2 : Int32) (x3 : Int32) (s0 : Int32) (H : Heap) (locs : List Loc) (ls : Array Slot), wp_X7_canBook_b34 g.2.2.2.2.2.2.1 g.2.2.2.2.2.2.2 post S a0 x2 x3 s0 → qs_Gd g (qs_F g SA s.heap.size) s S H locs → lv_has ls 9 [(0, .ref a0), (2, .int x2), (3, .int x3)] → W p l e (headSpec wsX7_canBook ({ frames := 1, cells := 0, slots := 0, locals := 24 } : Room)).room s m (([.ref a0z, .int x1z, .int x2z, .int x3z] : List Value)).toArray below meth c H locs 0 0 (MQ below (qs_Qi g (qs_F g SA s.heap.size) post) (([.ref a0z, .int x1z, .int x2z, .int x3z] : List Value)).toArray s 0 0 (qs_F g SA s.heap.size)) (F0 m 34 ls [.int s0]) := by
    intro S a0 x2 x3 s0 H locs ls h hG hl
    unfold wp_X7_canBook_b34 at h
    refine lv_istore (lv' := [(4, .int s0), (0, .ref a0), (2, .int x2), (3, .int x3)]) hx hb dX7_canBook_34 hl (by decide) rfl (fun ls hl => ?_)
    refine lv_iconst (v := (0 : Int32)) hx hb dX7_canBook_36 (by decide +kernel) ?_
    refine lv_istore (lv' := [(5, .int (0 : Int32)), (4, .int s0), (0, .ref a0), (2, .int x2), (3, .int x3)]) hx hb dX7_canBook_37 hl (by decide) rfl (fun ls hl => ?_)
    obtain ⟨n81, h⟩ := h
    exact b39 n81 S a0 x2 x3 s0 (0 : Int32) _ _ ls h hG (lv_sub hl [2, 3, 4, 1, 0] rfl)
  have b33 : ∀ (S : qs_S) (a0 : Nat) (x2 : Int32) (x3 : Int32) (H : Heap) (locs : List Loc) (ls : Array Slot), wp_X7_canBook_b33 g.2.2.2.2.2.2.1 g.2.2.2.2.2.2.2 post S a0 x2 x3 → qs_Gd g (qs_F g SA s.heap.size) s S H locs → lv_has ls 9 [(0, .ref a0), (2, .int x2), (3, .int x3)] → W p l e (headSpec wsX7_canBook ({ frames := 1, cells := 0, slots := 0, locals := 24 } : Room)).room s m (([.ref a0z, .int x1z, .int x2z, .int x3z] : List Value)).toArray below meth c H locs 0 0 (MQ below (qs_Qi g (qs_F g SA s.heap.size) post) (([.ref a0z, .int x1z, .int x2z, .int x3z] : List Value)).toArray s 0 0 (qs_F g SA s.heap.size)) (F0 m 33 ls []) := by
    intro S a0 x2 x3 H locs ls h hG hl
    unfold wp_X7_canBook_b33 at h
    refine lv_iconst (v := (0 : Int32)) hx hb dX7_canBook_33 (by decide +kernel) ?_
    exact b34 S a0 x2 x3 (0 : Int32) _ _ ls h hG (lv_sub hl [0, 1, 2] rfl)
  have hl := lv_entry ([.ref a0z, .int x1z, .int x2z, .int x3z]) (n := 9) (Nat.le_of_ble_eq_true rfl)
  rw [lg_entry_eq]
  generalize (lg_sl ([.ref a0z, .int x1z, .int x2z, .int x3z]) ++ List.replicate (9 - (lg_sl ([.ref a0z, .int x1z, .int x2z, .int x3z])).length) Slot.unset).toArray = ls at hl ⊢
  have hl : lv_has ls 9 [(0, .ref a0z), (1, .int x1z), (2, .int x2z), (3, .int x3z)] := hl
  unfold wp_X7_canBook at h
  refine lv_aload_n hx hb dX7_canBook_0 rfl (lv_at hl 0 rfl) ?_
  obtain ⟨⟨hL82, fK83⟩, h⟩ := h
  obtain ⟨q84, eq84, h⟩ := h
  refine qr_get (C := RX7) (T := TX7) (N := 35) (ci := 7) hx hb hts in7 hown hG hL82 fK83 (by decide) rfl 9 (by decide) rfl (hts (.fieldLink RX7 26 "QuayMeshModel" "where" "[I") (List.mem_of_getElem? (i := 1) rfl)) (fun _ h9 => h9) (v := .ref q84) (qs_rf eq84) dX7_canBook_1 ?_
  refine lv_iload_n hx hb dX7_canBook_4 rfl (lv_at hl 3 rfl) ?_
  obtain ⟨⟨hL85, fK86⟩, h⟩ := h
  obtain ⟨hi87, h⟩ := h
  refine qr_iald hx hb hG hL85 fK86 hi87 rfl dX7_canBook_5 ?_
  refine lv_topi (fun v88 ev88 => ?_)
  have h := h v88 ev88
  refine lv_iconst (v := (3 : Int32)) hx hb dX7_canBook_6 (by decide +kernel) ?_
  refine lv_icmp_ne (tgt := 33) hx hb dX7_canBook_7 (by decide) (fun c89 => ?_) (fun c89 => ?_)
  · have h := h.1 c89
    exact b33 SA a0z x2z x3z _ _ ls h hG (lv_sub hl [0, 2, 3] rfl)
  · have h := h.2 c89
    refine lv_aload_n hx hb dX7_canBook_10 rfl (lv_at hl 0 rfl) ?_
    obtain ⟨q90, eq90, h⟩ := h
    refine qr_get (C := RX7) (T := TX7) (N := 35) (ci := 7) hx hb hts in7 hown hG hL82 fK83 (by decide) rfl 12 (by decide) rfl (hts (.fieldLink RX7 35 "QuayMeshModel" "booked" "[I") (List.mem_of_getElem? (i := 2) rfl)) (fun _ h9 => h9) (v := .ref q90) (qs_rf eq90) dX7_canBook_11 ?_
    refine lv_iload_n hx hb dX7_canBook_14 rfl (lv_at hl 3 rfl) ?_
    obtain ⟨⟨hL91, fK92⟩, h⟩ := h
    obtain ⟨hi93, h⟩ := h
    refine qr_iald hx hb hG hL91 fK92 hi93 rfl dX7_canBook_15 ?_
    refine lv_topi (fun v94 ev94 => ?_)
    have h := h v94 ev94
    refine lv_iconst (v := (-1 : Int32)) hx hb dX7_canBook_16 (by decide +kernel) ?_
    refine lv_icmp_ne (tgt := 33) hx hb dX7_canBook_17 (by decide) (fun c95 => ?_) (fun c95 => ?_)
    · have h := h.1 c95
      exact b33 SA a0z x2z x3z _ _ ls h hG (lv_sub hl [0, 2, 3] rfl)
    · have h := h.2 c95
      refine lv_aload_n hx hb dX7_canBook_20 rfl (lv_at hl 0 rfl) ?_
      refine lv_iload_n hx hb dX7_canBook_21 rfl (lv_at hl 1 rfl) ?_
      refine lv_iload_n hx hb dX7_canBook_22 rfl (lv_at hl 2 rfl) ?_
      refine qc_i hG (va_runV (As := [.int x1z, .int x2z]) (rest := []) ⟨hx, hb, hml, hown, hts⟩ (c_X7_slotsFor l g _ SA a0z x1z x2z h) (cwV 2 hts gX7_canBook_X7_slotsFor rfl rfl rfl (by decide +kernel) ⟨(Nat.le_of_ble_eq_true rfl), (Nat.le_of_ble_eq_true rfl)⟩) ⟨qs_Pc.blind _ _ _ _, hG.recv hL82 fK83 (by decide) rfl, hG.pre _⟩ rfl rfl hl.1 rfl (lv_room (Nat.le_of_ble_eq_true rfl)) dX7_canBook_23 ⟨Nat.zero_le _, Nat.zero_le _⟩) (fun v99 S98 H locs h hG => ?_)
      refine lv_if_le (tgt := 33) hx hb dX7_canBook_26 (by decide) (fun c100 => ?_) (fun c100 => ?_)
      · have h := h.1 c100
        exact b33 S98 a0z x2z x3z _ _ ls h hG (lv_sub hl [0, 2, 3] rfl)
      · have h := h.2 c100
        refine lv_iconst (v := (1 : Int32)) hx hb dX7_canBook_29 (by decide +kernel) ?_
        refine lv_goto (tgt := 34) hx hb dX7_canBook_30 (by decide) ?_
        exact b34 S98 a0z x2z x3z (1 : Int32) _ _ ls h hG (lv_sub hl [0, 2, 3] rfl)
def wp_X7_book_b59 (t0 m9 : Nat) (post : Int32 → qs_S → Prop) (S : qs_S) (a0 : Nat) (x1 : Int32) (x2 : Int32) (x3 : Int32) (r0 : Nat) (s1 : Int32) : Prop := (r0 ∈ qs_L S ∧ qs_K S r0 = 7) ∧ ((a0 ∈ qs_L (qs_wI S 0 r0 s1) ∧ qs_K (qs_wI S 0 r0 s1) a0 = 7) ∧ (∀ v5 : Int32, v5 = qs_I (qs_wI S 0 r0 s1) 0 a0 → (v5 ≤ 0 → (∃ q7 : Nat, qs_R (qs_wI S 0 r0 s1) 12 a0 = some q7 ∧ ((q7 ∈ qs_L (qs_wI S 0 r0 s1) ∧ qs_K (qs_wI S 0 r0 s1) q7 = 8) ∧ (vp_in x3 (qs_Z (qs_wI S 0 r0 s1) q7) ∧ (∃ q11 : Nat, qs_R (qs_wA (qs_wI S 0 r0 s1) q7 x3.toNatClampNeg x2) 13 a0 = some q11 ∧ ((q11 ∈ qs_L (qs_wA (qs_wI S 0 r0 s1) q7 x3.toNatClampNeg x2) ∧ qs_K (qs_wA (qs_wI S 0 r0 s1) q7 x3.toNatClampNeg x2) q11 = 8) ∧ (vp_in x3 (qs_Z (qs_wA (qs_wI S 0 r0 s1) q7 x3.toNatClampNeg x2) q11) ∧ (wp_X7_slotsFor t0 m9 (fun (v18 : Int32) (S17 : qs_S) => post v18 S17) (qs_wA (qs_wA (qs_wI S 0 r0 s1) q7 x3.toNatClampNeg x2) q11 x3.toNatClampNeg x1) a0 x1 x2)))))))) ∧ (¬ v5 ≤ 0 → (post (0 : Int32) (qs_wI S 0 r0 s1)))))
def wp_X7_book_b18 (t0 m9 : Nat) (post : Int32 → qs_S → Prop) (S : qs_S) (a0 : Nat) (x1 : Int32) (x2 : Int32) (x3 : Int32) (r0 : Nat) : Prop := wp_X7_book_b59 t0 m9 post S a0 x1 x2 x3 r0 (1 : Int32)
def wp_X7_book (t0 m9 : Nat) (post : Int32 → qs_S → Prop) (SA : qs_S) (a0z : Nat) (x1z : Int32) (x2z : Int32) (x3z : Int32) : Prop := wp_X7_in t0 m9 (fun (v22 : Int32) (S21 : qs_S) => (v22 = 0 → (wp_X7_book_b18 t0 m9 post S21 a0z x1z x2z x3z a0z)) ∧ (¬ v22 = 0 → ((a0z ∈ qs_L S21 ∧ qs_K S21 a0z = 7) ∧ (wp_X7_isBox t0 m9 (fun (v29 : Int32) (S28 : qs_S) => (¬ v29 = 0 → ((a0z ∈ qs_L S28 ∧ qs_K S28 a0z = 7) ∧ (∀ v33 : Int32, v33 = qs_I S28 1 a0z → ∀ v34 : Int32, v34 = qs_I S28 1 a0z → ∀ v35 : Int32, v35 = v34 + (24 : Int32) → wp_X7_in t0 m9 (fun (v39 : Int32) (S38 : qs_S) => (¬ v39 = 0 → ((a0z ∈ qs_L S38 ∧ qs_K S38 a0z = 7) ∧ (wp_X7_canBook t0 m9 (fun (v46 : Int32) (S45 : qs_S) => (v46 = 0 → (wp_X7_book_b59 t0 m9 post S45 a0z x1z x2z x3z a0z (3 : Int32))) ∧ (¬ v46 = 0 → (wp_X7_book_b59 t0 m9 post S45 a0z x1z x2z x3z a0z (0 : Int32)))) S38 a0z x1z x2z x3z))) ∧ (v39 = 0 → (wp_X7_book_b59 t0 m9 post S38 a0z x1z x2z x3z a0z (2 : Int32)))) S28 x2z v33 v35))) ∧ (v29 = 0 → (wp_X7_book_b18 t0 m9 post S28 a0z x1z x2z x3z a0z))) S21 a0z x3z)))) SA x1z (0 : Int32) (1 : Int32)
set_option maxHeartbeats 4000000 in
set_option maxRecDepth 100000 in
theorem c_X7_book (l : Launch) (g : qs_G) (sz : Nat) (SA : qs_S) (a0z : Nat) (x1z : Int32) (x2z : Int32) (x3z : Int32) {post : Int32 → qs_S → Prop} (h : wp_X7_book g.2.2.2.2.2.2.1 g.2.2.2.2.2.2.2 post SA a0z x1z x2z x3z) : Met l yX7_book wsX7_book ({ frames := 2, cells := 0, slots := 0, locals := 52 } : Room) (qs_Pc g sz SA [.ref a0z, .int x1z, .int x2z, .int x3z]) (qs_Qi g (qs_F g SA sz) post) 0 0 (qs_F g SA sz) := by
  refine Met.ofW (cc := cX7_book) (maxL := 4) (ret := (some .int)) (by decide +kernel) rfl ?_
  intro p e s m args below meth c s₁ B hml hv
  obtain ⟨rfl, hsz, hG⟩ := qs_Gd.start hv
  subst hsz
  have hx := B.exec
  have hb := B.bytes
  have hr := B.returns
  have hts := atoms_spec (ws := wsX7_book) B.pre
  have hown : s.vm.findClass RX7 = some m.cls := findClass_of_methodNamed B.named
  have hlk := B.notSynchronized
  have in7 : ∀ w ∈ u_ws RX7 TX7 35, w ∈ wsX7_book := fun w h => List.mem_cons_of_mem _ (List.mem_append_right _ (h))
  have b59 : ∀ (S : qs_S) (a0 : Nat) (x1 : Int32) (x2 : Int32) (x3 : Int32) (r0 : Nat) (s1 : Int32) (H : Heap) (locs : List Loc) (ls : Array Slot), wp_X7_book_b59 g.2.2.2.2.2.2.1 g.2.2.2.2.2.2.2 post S a0 x1 x2 x3 r0 s1 → qs_Gd g (qs_F g SA s.heap.size) s S H locs → lv_has ls 4 [(0, .ref a0), (1, .int x1), (2, .int x2), (3, .int x3)] → W p l e (headSpec wsX7_book ({ frames := 2, cells := 0, slots := 0, locals := 52 } : Room)).room s m (([.ref a0z, .int x1z, .int x2z, .int x3z] : List Value)).toArray below meth c H locs 0 0 (MQ below (qs_Qi g (qs_F g SA s.heap.size) post) (([.ref a0z, .int x1z, .int x2z, .int x3z] : List Value)).toArray s 0 0 (qs_F g SA s.heap.size)) (F0 m 59 ls [.int s1, .ref r0]) := by
    intro S a0 x1 x2 x3 r0 s1 H locs ls h hG hl
    unfold wp_X7_book_b59 at h
    obtain ⟨⟨hL1, fK2⟩, h⟩ := h
    refine qr_putI (C := RX7) (T := TX7) (N := 35) (ci := 7) hx hb hts in7 tyX7 tyX7_ok nmX7 hown hG hL1 fK2 (by decide) rfl 0 (by decide) rfl (hts (.fieldLink RX7 95 "QuayMeshModel" "thrown" "I") (List.mem_of_getElem? (i := 2) rfl)) (fun _ h9 => h9) rfl (x := s1) (tyX7_ok 0 (by decide)) rfl rfl dX7_book_59 (fun H locs hG => ?_)
    refine lv_aload_n hx hb dX7_book_62 rfl (lv_at hl 0 rfl) ?_
    obtain ⟨⟨hL3, fK4⟩, h⟩ := h
    refine qr_get (C := RX7) (T := TX7) (N := 35) (ci := 7) hx hb hts in7 hown hG hL3 fK4 (by decide) rfl 0 (by decide) rfl (hts (.fieldLink RX7 95 "QuayMeshModel" "thrown" "I") (List.mem_of_getElem? (i := 2) rfl)) (fun _ h9 => h9) (v := .int (qs_I (qs_wI S 0 r0 s1) 0 a0)) rfl dX7_book_63 ?_
    refine lv_topi (fun v5 ev5 => ?_)
    have h := h v5 ev5
    refine lv_if_le (tgt := 71) hx hb dX7_book_66 (by decide) (fun c6 => ?_) (fun c6 => ?_)
    · have h := h.1 c6
      refine lv_aload_n hx hb dX7_book_71 rfl (lv_at hl 0 rfl) ?_
      obtain ⟨q7, eq7, h⟩ := h
      refine qr_get (C := RX7) (T := TX7) (N := 35) (ci := 7) hx hb hts in7 hown hG hL3 fK4 (by decide) rfl 12 (by decide) rfl (hts (.fieldLink RX7 35 "QuayMeshModel" "booked" "[I") (List.mem_of_getElem? (i := 3) rfl)) (fun _ h9 => h9) (v := .ref q7) (qs_rf eq7) dX7_book_72 ?_
      refine lv_iload_n hx hb dX7_book_75 rfl (lv_at hl 3 rfl) ?_
      refine lv_iload_n hx hb dX7_book_76 rfl (lv_at hl 2 rfl) ?_
      obtain ⟨⟨hL8, fK9⟩, h⟩ := h
      obtain ⟨hi10, h⟩ := h
      refine qr_iast hx hb hG hL8 fK9 hi10 dX7_book_77 (fun H locs hG => ?_)
      refine lv_aload_n hx hb dX7_book_78 rfl (lv_at hl 0 rfl) ?_
      obtain ⟨q11, eq11, h⟩ := h
      refine qr_get (C := RX7) (T := TX7) (N := 35) (ci := 7) hx hb hts in7 hown hG hL3 fK4 (by decide) rfl 13 (by decide) rfl (hts (.fieldLink RX7 38 "QuayMeshModel" "gate" "[I") (List.mem_of_getElem? (i := 4) rfl)) (fun _ h9 => h9) (v := .ref q11) (qs_rf eq11) dX7_book_79 ?_
      refine lv_iload_n hx hb dX7_book_82 rfl (lv_at hl 3 rfl) ?_
      refine lv_iload_n hx hb dX7_book_83 rfl (lv_at hl 1 rfl) ?_
      obtain ⟨⟨hL12, fK13⟩, h⟩ := h
      obtain ⟨hi14, h⟩ := h
      refine qr_iast hx hb hG hL12 fK13 hi14 dX7_book_84 (fun H locs hG => ?_)
      refine lv_aload_n hx hb dX7_book_85 rfl (lv_at hl 0 rfl) ?_
      refine lv_iload_n hx hb dX7_book_86 rfl (lv_at hl 1 rfl) ?_
      refine lv_iload_n hx hb dX7_book_87 rfl (lv_at hl 2 rfl) ?_
      refine qc_i hG (va_runV (As := [.int x1, .int x2]) (rest := []) ⟨hx, hb, hml, hown, hts⟩ (c_X7_slotsFor l g _ (qs_wA (qs_wA (qs_wI S 0 r0 s1) q7 x3.toNatClampNeg x2) q11 x3.toNatClampNeg x1) a0 x1 x2 h) (cwV 2 hts gX7_book_X7_slotsFor rfl rfl rfl (by decide +kernel) ⟨(Nat.le_of_ble_eq_true rfl), (Nat.le_of_ble_eq_true rfl)⟩) ⟨qs_Pc.blind _ _ _ _, hG.recv hL3 fK4 (by decide) rfl, hG.pre _⟩ rfl rfl hl.1 rfl (lv_room (Nat.le_of_ble_eq_true rfl)) dX7_book_88 ⟨Nat.zero_le _, Nat.zero_le _⟩) (fun v18 S17 H locs h hG => ?_)
      exact qe_i hx hb hr hlk hG h (Nat.le_refl _) (Nat.le_refl _) dX7_book_91
    · have h := h.2 c6
      refine lv_iconst (v := (0 : Int32)) hx hb dX7_book_69 (by decide +kernel) ?_
      exact qe_i hx hb hr hlk hG h (Nat.le_refl _) (Nat.le_refl _) dX7_book_70
  have b18 : ∀ (S : qs_S) (a0 : Nat) (x1 : Int32) (x2 : Int32) (x3 : Int32) (r0 : Nat) (H : Heap) (locs : List Loc) (ls : Array Slot), wp_X7_book_b18 g.2.2.2.2.2.2.1 g.2.2.2.2.2.2.2 post S a0 x1 x2 x3 r0 → qs_Gd g (qs_F g SA s.heap.size) s S H locs → lv_has ls 4 [(0, .ref a0), (1, .int x1), (2, .int x2), (3, .int x3)] → W p l e (headSpec wsX7_book ({ frames := 2, cells := 0, slots := 0, locals := 52 } : Room)).room s m (([.ref a0z, .int x1z, .int x2z, .int x3z] : List Value)).toArray below meth c H locs 0 0 (MQ below (qs_Qi g (qs_F g SA s.heap.size) post) (([.ref a0z, .int x1z, .int x2z, .int x3z] : List Value)).toArray s 0 0 (qs_F g SA s.heap.size)) (F0 m 18 ls [.ref r0]) := by
    intro S a0 x1 x2 x3 r0 H locs ls h hG hl
    unfold wp_X7_book_b18 at h
    refine lv_iconst (v := (1 : Int32)) hx hb dX7_book_18 (by decide +kernel) ?_
    refine lv_goto (tgt := 59) hx hb dX7_book_19 (by decide) ?_
    exact b59 S a0 x1 x2 x3 r0 (1 : Int32) _ _ ls h hG (lv_sub hl [0, 1, 2, 3] rfl)
  have hl := lv_entry ([.ref a0z, .int x1z, .int x2z, .int x3z]) (n := 4) (Nat.le_of_ble_eq_true rfl)
  rw [lg_entry_eq]
  generalize (lg_sl ([.ref a0z, .int x1z, .int x2z, .int x3z]) ++ List.replicate (4 - (lg_sl ([.ref a0z, .int x1z, .int x2z, .int x3z])).length) Slot.unset).toArray = ls at hl ⊢
  have hl : lv_has ls 4 [(0, .ref a0z), (1, .int x1z), (2, .int x2z), (3, .int x3z)] := hl
  unfold wp_X7_book at h
  refine lv_aload_n hx hb dX7_book_0 rfl (lv_at hl 0 rfl) ?_
  refine lv_iload_n hx hb dX7_book_1 rfl (lv_at hl 1 rfl) ?_
  refine lv_iconst (v := (0 : Int32)) hx hb dX7_book_2 (by decide +kernel) ?_
  refine lv_iconst (v := (1 : Int32)) hx hb dX7_book_3 (by decide +kernel) ?_
  refine qc_i hG (va_runS (As := [.int x1z, .int (0 : Int32), .int (1 : Int32)]) (rest := [.ref a0z]) ⟨hx, hb, hml, hown, hts⟩ (c_X7_in l g _ SA x1z (0 : Int32) (1 : Int32) h) (va_cwS 3 hts gX7_book_X7_in rfl rfl rfl (by decide +kernel) ⟨(Nat.le_of_ble_eq_true rfl), (Nat.le_of_ble_eq_true rfl)⟩) ⟨qs_Pc.blind _ _ _ _, hG.pre _⟩ rfl rfl hl.1 rfl (lv_room (Nat.le_of_ble_eq_true rfl)) dX7_book_4 ⟨Nat.zero_le _, Nat.zero_le _⟩) (fun v22 S21 H locs h hG => ?_)
  refine lv_if_eq (tgt := 18) hx hb dX7_book_7 (by decide) (fun c23 => ?_) (fun c23 => ?_)
  · have h := h.1 c23
    exact b18 S21 a0z x1z x2z x3z a0z _ _ ls h hG (lv_sub hl [0, 1, 2, 3] rfl)
  · have h := h.2 c23
    refine lv_aload_n hx hb dX7_book_10 rfl (lv_at hl 0 rfl) ?_
    refine lv_iload_n hx hb dX7_book_11 rfl (lv_at hl 3 rfl) ?_
    obtain ⟨⟨hL26, fK27⟩, h⟩ := h
    refine qc_i hG (va_runV (As := [.int x3z]) (rest := [.ref a0z]) ⟨hx, hb, hml, hown, hts⟩ (c_X7_isBox l g _ S21 a0z x3z h) (cwV 1 hts gX7_book_X7_isBox rfl rfl rfl (by decide +kernel) ⟨(Nat.le_of_ble_eq_true rfl), (Nat.le_of_ble_eq_true rfl)⟩) ⟨qs_Pc.blind _ _ _ _, hG.recv hL26 fK27 (by decide) rfl, hG.pre _⟩ rfl rfl hl.1 rfl (lv_room (Nat.le_of_ble_eq_true rfl)) dX7_book_12 ⟨Nat.zero_le _, Nat.zero_le _⟩) (fun v29 S28 H locs h hG => ?_)
    refine lv_if_ne (tgt := 22) hx hb dX7_book_15 (by decide) (fun c30 => ?_) (fun c30 => ?_)
    · have h := h.1 c30
      refine lv_iload_n hx hb dX7_book_22 rfl (lv_at hl 2 rfl) ?_
      refine lv_aload_n hx hb dX7_book_23 rfl (lv_at hl 0 rfl) ?_
      obtain ⟨⟨hL31, fK32⟩, h⟩ := h
      refine qr_get (C := RX7) (T := TX7) (N := 35) (ci := 7) hx hb hts in7 hown hG hL31 fK32 (by decide) rfl 1 (by decide) rfl (hts (.fieldLink RX7 172 "QuayMeshModel" "hour" "I") (List.mem_of_getElem? (i := 1) rfl)) (fun _ h9 => h9) (v := .int (qs_I S28 1 a0z)) rfl dX7_book_24 ?_
      refine lv_topi (fun v33 ev33 => ?_)
      have h := h v33 ev33
      refine lv_aload_n hx hb dX7_book_27 rfl (lv_at hl 0 rfl) ?_
      refine qr_get (C := RX7) (T := TX7) (N := 35) (ci := 7) hx hb hts in7 hown hG hL31 fK32 (by decide) rfl 1 (by decide) rfl (hts (.fieldLink RX7 172 "QuayMeshModel" "hour" "I") (List.mem_of_getElem? (i := 1) rfl)) (fun _ h9 => h9) (v := .int (qs_I S28 1 a0z)) rfl dX7_book_28 ?_
      refine lv_topi (fun v34 ev34 => ?_)
      have h := h v34 ev34
      refine lv_bipush (v := (24 : Int32)) hx hb dX7_book_31 (by decide +kernel) ?_
      refine lv_iadd hx hb dX7_book_33 ?_
      refine lv_topi (fun v35 ev35 => ?_)
      have h := h v35 ev35
      refine qc_i hG (va_runS (As := [.int x2z, .int v33, .int v35]) (rest := [.ref a0z]) ⟨hx, hb, hml, hown, hts⟩ (c_X7_in l g _ S28 x2z v33 v35 h) (va_cwS 3 hts gX7_book_X7_in rfl rfl rfl (by decide +kernel) ⟨(Nat.le_of_ble_eq_true rfl), (Nat.le_of_ble_eq_true rfl)⟩) ⟨qs_Pc.blind _ _ _ _, hG.pre _⟩ rfl rfl hl.1 rfl (lv_room (Nat.le_of_ble_eq_true rfl)) dX7_book_34 ⟨Nat.zero_le _, Nat.zero_le _⟩) (fun v39 S38 H locs h hG => ?_)
      refine lv_if_ne (tgt := 44) hx hb dX7_book_37 (by decide) (fun c40 => ?_) (fun c40 => ?_)
      · have h := h.1 c40
        refine lv_aload_n hx hb dX7_book_44 rfl (lv_at hl 0 rfl) ?_
        refine lv_iload_n hx hb dX7_book_45 rfl (lv_at hl 1 rfl) ?_
        refine lv_iload_n hx hb dX7_book_46 rfl (lv_at hl 2 rfl) ?_
        refine lv_iload_n hx hb dX7_book_47 rfl (lv_at hl 3 rfl) ?_
        obtain ⟨⟨hL43, fK44⟩, h⟩ := h
        refine qc_i hG (va_runV (As := [.int x1z, .int x2z, .int x3z]) (rest := [.ref a0z]) ⟨hx, hb, hml, hown, hts⟩ (c_X7_canBook l g _ S38 a0z x1z x2z x3z h) (cwV 3 hts gX7_book_X7_canBook rfl rfl rfl (by decide +kernel) ⟨(Nat.le_of_ble_eq_true rfl), (Nat.le_of_ble_eq_true rfl)⟩) ⟨qs_Pc.blind _ _ _ _, hG.recv hL43 fK44 (by decide) rfl, hG.pre _⟩ rfl rfl hl.1 rfl (lv_room (Nat.le_of_ble_eq_true rfl)) dX7_book_48 ⟨Nat.zero_le _, Nat.zero_le _⟩) (fun v46 S45 H locs h hG => ?_)
        refine lv_if_eq (tgt := 58) hx hb dX7_book_51 (by decide) (fun c47 => ?_) (fun c47 => ?_)
        · have h := h.1 c47
          refine lv_iconst (v := (3 : Int32)) hx hb dX7_book_58 (by decide +kernel) ?_
          exact b59 S45 a0z x1z x2z x3z a0z (3 : Int32) _ _ ls h hG (lv_sub hl [0, 1, 2, 3] rfl)
        · have h := h.2 c47
          refine lv_iconst (v := (0 : Int32)) hx hb dX7_book_54 (by decide +kernel) ?_
          refine lv_goto (tgt := 59) hx hb dX7_book_55 (by decide) ?_
          exact b59 S45 a0z x1z x2z x3z a0z (0 : Int32) _ _ ls h hG (lv_sub hl [0, 1, 2, 3] rfl)
      · have h := h.2 c40
        refine lv_iconst (v := (2 : Int32)) hx hb dX7_book_40 (by decide +kernel) ?_
        refine lv_goto (tgt := 59) hx hb dX7_book_41 (by decide) ?_
        exact b59 S38 a0z x1z x2z x3z a0z (2 : Int32) _ _ ls h hG (lv_sub hl [0, 1, 2, 3] rfl)
    · have h := h.2 c30
      exact b18 S28 a0z x1z x2z x3z a0z _ _ ls h hG (lv_sub hl [0, 1, 2, 3] rfl)
def wp_X7_unbook_b28 (t0 m9 : Nat) (post : Int32 → qs_S → Prop) (S : qs_S) (a0 : Nat) (x1 : Int32) (r0 : Nat) (s1 : Int32) : Prop := (r0 ∈ qs_L S ∧ qs_K S r0 = 7) ∧ ((a0 ∈ qs_L (qs_wI S 0 r0 s1) ∧ qs_K (qs_wI S 0 r0 s1) a0 = 7) ∧ (∀ v5 : Int32, v5 = qs_I (qs_wI S 0 r0 s1) 0 a0 → (v5 ≤ 0 → (∃ q7 : Nat, qs_R (qs_wI S 0 r0 s1) 12 a0 = some q7 ∧ ((q7 ∈ qs_L (qs_wI S 0 r0 s1) ∧ qs_K (qs_wI S 0 r0 s1) q7 = 8) ∧ (vp_in x1 (qs_Z (qs_wI S 0 r0 s1) q7) ∧ (∀ v11 : Int32, v11 = qs_A (qs_wI S 0 r0 s1) q7 x1.toNatClampNeg → ∃ q12 : Nat, qs_R (qs_wI S 0 r0 s1) 12 a0 = some q12 ∧ ((q12 ∈ qs_L (qs_wI S 0 r0 s1) ∧ qs_K (qs_wI S 0 r0 s1) q12 = 8) ∧ (vp_in x1 (qs_Z (qs_wI S 0 r0 s1) q12) ∧ (post v11 (qs_wA (qs_wI S 0 r0 s1) q12 x1.toNatClampNeg (-1 : Int32)))))))))) ∧ (¬ v5 ≤ 0 → (post (0 : Int32) (qs_wI S 0 r0 s1)))))
def wp_X7_unbook (t0 m9 : Nat) (post : Int32 → qs_S → Prop) (SA : qs_S) (a0z : Nat) (x1z : Int32) : Prop := (a0z ∈ qs_L SA ∧ qs_K SA a0z = 7) ∧ (wp_X7_isBox t0 m9 (fun (v21 : Int32) (S20 : qs_S) => (¬ v21 = 0 → ((a0z ∈ qs_L S20 ∧ qs_K S20 a0z = 7) ∧ (∃ q25 : Nat, qs_R S20 12 a0z = some q25 ∧ ((q25 ∈ qs_L S20 ∧ qs_K S20 q25 = 8) ∧ (vp_in x1z (qs_Z S20 q25) ∧ (∀ v29 : Int32, v29 = qs_A S20 q25 x1z.toNatClampNeg → (¬ v29 = (-1 : Int32) → (wp_X7_unbook_b28 t0 m9 post S20 a0z x1z a0z (0 : Int32))) ∧ (v29 = (-1 : Int32) → (wp_X7_unbook_b28 t0 m9 post S20 a0z x1z a0z (2 : Int32))))))))) ∧ (v21 = 0 → (wp_X7_unbook_b28 t0 m9 post S20 a0z x1z a0z (1 : Int32)))) SA a0z x1z)
set_option maxHeartbeats 4000000 in
set_option maxRecDepth 100000 in
theorem c_X7_unbook (l : Launch) (g : qs_G) (sz : Nat) (SA : qs_S) (a0z : Nat) (x1z : Int32) {post : Int32 → qs_S → Prop} (h : wp_X7_unbook g.2.2.2.2.2.2.1 g.2.2.2.2.2.2.2 post SA a0z x1z) : Met l yX7_unbook wsX7_unbook ({ frames := 2, cells := 0, slots := 0, locals := 43 } : Room) (qs_Pc g sz SA [.ref a0z, .int x1z]) (qs_Qi g (qs_F g SA sz) post) 0 0 (qs_F g SA sz) := by
  refine Met.ofW (cc := cX7_unbook) (maxL := 3) (ret := (some .int)) (by decide +kernel) rfl ?_
  intro p e s m args below meth c s₁ B hml hv
  obtain ⟨rfl, hsz, hG⟩ := qs_Gd.start hv
  subst hsz
  have hx := B.exec
  have hb := B.bytes
  have hr := B.returns
  have hts := atoms_spec (ws := wsX7_unbook) B.pre
  have hown : s.vm.findClass RX7 = some m.cls := findClass_of_methodNamed B.named
  have hlk := B.notSynchronized
  have in7 : ∀ w ∈ u_ws RX7 TX7 35, w ∈ wsX7_unbook := fun w h => List.mem_cons_of_mem _ (List.mem_append_right _ (h))
  have b28 : ∀ (S : qs_S) (a0 : Nat) (x1 : Int32) (r0 : Nat) (s1 : Int32) (H : Heap) (locs : List Loc) (ls : Array Slot), wp_X7_unbook_b28 g.2.2.2.2.2.2.1 g.2.2.2.2.2.2.2 post S a0 x1 r0 s1 → qs_Gd g (qs_F g SA s.heap.size) s S H locs → lv_has ls 3 [(0, .ref a0), (1, .int x1)] → W p l e (headSpec wsX7_unbook ({ frames := 2, cells := 0, slots := 0, locals := 43 } : Room)).room s m (([.ref a0z, .int x1z] : List Value)).toArray below meth c H locs 0 0 (MQ below (qs_Qi g (qs_F g SA s.heap.size) post) (([.ref a0z, .int x1z] : List Value)).toArray s 0 0 (qs_F g SA s.heap.size)) (F0 m 28 ls [.int s1, .ref r0]) := by
    intro S a0 x1 r0 s1 H locs ls h hG hl
    unfold wp_X7_unbook_b28 at h
    obtain ⟨⟨hL1, fK2⟩, h⟩ := h
    refine qr_putI (C := RX7) (T := TX7) (N := 35) (ci := 7) hx hb hts in7 tyX7 tyX7_ok nmX7 hown hG hL1 fK2 (by decide) rfl 0 (by decide) rfl (hts (.fieldLink RX7 95 "QuayMeshModel" "thrown" "I") (List.mem_of_getElem? (i := 2) rfl)) (fun _ h9 => h9) rfl (x := s1) (tyX7_ok 0 (by decide)) rfl rfl dX7_unbook_28 (fun H locs hG => ?_)
    refine lv_aload_n hx hb dX7_unbook_31 rfl (lv_at hl 0 rfl) ?_
    obtain ⟨⟨hL3, fK4⟩, h⟩ := h
    refine qr_get (C := RX7) (T := TX7) (N := 35) (ci := 7) hx hb hts in7 hown hG hL3 fK4 (by decide) rfl 0 (by decide) rfl (hts (.fieldLink RX7 95 "QuayMeshModel" "thrown" "I") (List.mem_of_getElem? (i := 2) rfl)) (fun _ h9 => h9) (v := .int (qs_I (qs_wI S 0 r0 s1) 0 a0)) rfl dX7_unbook_32 ?_
    refine lv_topi (fun v5 ev5 => ?_)
    have h := h v5 ev5
    refine lv_if_le (tgt := 40) hx hb dX7_unbook_35 (by decide) (fun c6 => ?_) (fun c6 => ?_)
    · have h := h.1 c6
      refine lv_aload_n hx hb dX7_unbook_40 rfl (lv_at hl 0 rfl) ?_
      obtain ⟨q7, eq7, h⟩ := h
      refine qr_get (C := RX7) (T := TX7) (N := 35) (ci := 7) hx hb hts in7 hown hG hL3 fK4 (by decide) rfl 12 (by decide) rfl (hts (.fieldLink RX7 35 "QuayMeshModel" "booked" "[I") (List.mem_of_getElem? (i := 1) rfl)) (fun _ h9 => h9) (v := .ref q7) (qs_rf eq7) dX7_unbook_41 ?_
      refine lv_iload_n hx hb dX7_unbook_44 rfl (lv_at hl 1 rfl) ?_
      obtain ⟨⟨hL8, fK9⟩, h⟩ := h
      obtain ⟨hi10, h⟩ := h
      refine qr_iald hx hb hG hL8 fK9 hi10 rfl dX7_unbook_45 ?_
      refine lv_topi (fun v11 ev11 => ?_)
      have h := h v11 ev11
      refine lv_istore_n (lv' := [(2, .int v11), (0, .ref a0), (1, .int x1)]) hx hb dX7_unbook_46 rfl hl (by decide) rfl (fun ls hl => ?_)
      refine lv_aload_n hx hb dX7_unbook_47 rfl (lv_at hl 1 rfl) ?_
      obtain ⟨q12, eq12, h⟩ := h
      refine qr_get (C := RX7) (T := TX7) (N := 35) (ci := 7) hx hb hts in7 hown hG hL3 fK4 (by decide) rfl 12 (by decide) rfl (hts (.fieldLink RX7 35 "QuayMeshModel" "booked" "[I") (List.mem_of_getElem? (i := 1) rfl)) (fun _ h9 => h9) (v := .ref q12) (qs_rf eq12) dX7_unbook_48 ?_
      refine lv_iload_n hx hb dX7_unbook_51 rfl (lv_at hl 2 rfl) ?_
      refine lv_iconst (v := (-1 : Int32)) hx hb dX7_unbook_52 (by decide +kernel) ?_
      obtain ⟨⟨hL13, fK14⟩, h⟩ := h
      obtain ⟨hi15, h⟩ := h
      refine qr_iast hx hb hG hL13 fK14 hi15 dX7_unbook_53 (fun H locs hG => ?_)
      refine lv_iload_n hx hb dX7_unbook_54 rfl (lv_at hl 0 rfl) ?_
      exact qe_i hx hb hr hlk hG h (Nat.le_refl _) (Nat.le_refl _) dX7_unbook_55
    · have h := h.2 c6
      refine lv_iconst (v := (0 : Int32)) hx hb dX7_unbook_38 (by decide +kernel) ?_
      exact qe_i hx hb hr hlk hG h (Nat.le_refl _) (Nat.le_refl _) dX7_unbook_39
  have hl := lv_entry ([.ref a0z, .int x1z]) (n := 3) (Nat.le_of_ble_eq_true rfl)
  rw [lg_entry_eq]
  generalize (lg_sl ([.ref a0z, .int x1z]) ++ List.replicate (3 - (lg_sl ([.ref a0z, .int x1z])).length) Slot.unset).toArray = ls at hl ⊢
  have hl : lv_has ls 3 [(0, .ref a0z), (1, .int x1z)] := hl
  unfold wp_X7_unbook at h
  refine lv_aload_n hx hb dX7_unbook_0 rfl (lv_at hl 0 rfl) ?_
  refine lv_aload_n hx hb dX7_unbook_1 rfl (lv_at hl 0 rfl) ?_
  refine lv_iload_n hx hb dX7_unbook_2 rfl (lv_at hl 1 rfl) ?_
  obtain ⟨⟨hL18, fK19⟩, h⟩ := h
  refine qc_i hG (va_runV (As := [.int x1z]) (rest := [.ref a0z]) ⟨hx, hb, hml, hown, hts⟩ (c_X7_isBox l g _ SA a0z x1z h) (cwV 1 hts gX7_unbook_X7_isBox rfl rfl rfl (by decide +kernel) ⟨(Nat.le_of_ble_eq_true rfl), (Nat.le_of_ble_eq_true rfl)⟩) ⟨qs_Pc.blind _ _ _ _, hG.recv hL18 fK19 (by decide) rfl, hG.pre _⟩ rfl rfl hl.1 rfl (lv_room (Nat.le_of_ble_eq_true rfl)) dX7_unbook_3 ⟨Nat.zero_le _, Nat.zero_le _⟩) (fun v21 S20 H locs h hG => ?_)
  refine lv_if_ne (tgt := 13) hx hb dX7_unbook_6 (by decide) (fun c22 => ?_) (fun c22 => ?_)
  · have h := h.1 c22
    refine lv_aload_n hx hb dX7_unbook_13 rfl (lv_at hl 0 rfl) ?_
    obtain ⟨⟨hL23, fK24⟩, h⟩ := h
    obtain ⟨q25, eq25, h⟩ := h
    refine qr_get (C := RX7) (T := TX7) (N := 35) (ci := 7) hx hb hts in7 hown hG hL23 fK24 (by decide) rfl 12 (by decide) rfl (hts (.fieldLink RX7 35 "QuayMeshModel" "booked" "[I") (List.mem_of_getElem? (i := 1) rfl)) (fun _ h9 => h9) (v := .ref q25) (qs_rf eq25) dX7_unbook_14 ?_
    refine lv_iload_n hx hb dX7_unbook_17 rfl (lv_at hl 1 rfl) ?_
    obtain ⟨⟨hL26, fK27⟩, h⟩ := h
    obtain ⟨hi28, h⟩ := h
    refine qr_iald hx hb hG hL26 fK27 hi28 rfl dX7_unbook_18 ?_
    refine lv_topi (fun v29 ev29 => ?_)
    have h := h v29 ev29
    refine lv_iconst (v := (-1 : Int32)) hx hb dX7_unbook_19 (by decide +kernel) ?_
    refine lv_icmp_ne (tgt := 27) hx hb dX7_unbook_20 (by decide) (fun c30 => ?_) (fun c30 => ?_)
    · have h := h.1 c30
      refine lv_iconst (v := (0 : Int32)) hx hb dX7_unbook_27 (by decide +kernel) ?_
      exact b28 S20 a0z x1z a0z (0 : Int32) _ _ ls h hG (lv_sub hl [0, 1] rfl)
    · have h := h.2 c30
      refine lv_iconst (v := (2 : Int32)) hx hb dX7_unbook_23 (by decide +kernel) ?_
      refine lv_goto (tgt := 28) hx hb dX7_unbook_24 (by decide) ?_
      exact b28 S20 a0z x1z a0z (2 : Int32) _ _ ls h hG (lv_sub hl [0, 1] rfl)
  · have h := h.2 c22
    refine lv_iconst (v := (1 : Int32)) hx hb dX7_unbook_9 (by decide +kernel) ?_
    refine lv_goto (tgt := 28) hx hb dX7_unbook_10 (by decide) ?_
    exact b28 S20 a0z x1z a0z (1 : Int32) _ _ ls h hG (lv_sub hl [0, 1] rfl)
def wp_X7_advance_b99 (t0 m9 : Nat) (post : Int32 → qs_S → Prop) (K58 : qs_S → Nat → Int32 → Int32 → Prop) (S : qs_S) (a0 : Nat) (x2 : Int32) (x3 : Int32) : Prop := ∀ v1 : Int32, v1 = x3 + 1 → K58 S a0 x2 v1
def wp_X7_advance_c58 (t0 m9 : Nat) (post : Int32 → qs_S → Prop) (K58 : qs_S → Nat → Int32 → Int32 → Prop) (S : qs_S) (a0 : Nat) (x2 : Int32) (x3 : Int32) : Prop := (a0 ∈ qs_L S ∧ qs_K S a0 = 7) ∧ (∀ v4 : Int32, v4 = qs_I S 6 a0 → (v4 ≤ x3 → (post x2 S)) ∧ (¬ v4 ≤ x3 → (∃ q6 : Nat, qs_R S 12 a0 = some q6 ∧ ((q6 ∈ qs_L S ∧ qs_K S q6 = 8) ∧ (vp_in x3 (qs_Z S q6) ∧ (∀ v10 : Int32, v10 = qs_A S q6 x3.toNatClampNeg → (v10 = (-1 : Int32) → (wp_X7_advance_b99 t0 m9 post K58 S a0 x2 x3)) ∧ (¬ v10 = (-1 : Int32) → (∃ q12 : Nat, qs_R S 12 a0 = some q12 ∧ ((q12 ∈ qs_L S ∧ qs_K S q12 = 8) ∧ (vp_in x3 (qs_Z S q12) ∧ (∀ v16 : Int32, v16 = qs_A S q12 x3.toNatClampNeg → ∀ v17 : Int32, v17 = qs_I S 1 a0 → (v17 ≤ v16 → (wp_X7_advance_b99 t0 m9 post K58 S a0 x2 x3)) ∧ (¬ v17 ≤ v16 → (∃ q19 : Nat, qs_R S 12 a0 = some q19 ∧ ((q19 ∈ qs_L S ∧ qs_K S q19 = 8) ∧ (vp_in x3 (qs_Z S q19) ∧ (∀ v23 : Int32, v23 = x2 + 1 → wp_X7_advance_b99 t0 m9 post K58 (qs_wA S q19 x3.toNatClampNeg (-1 : Int32)) a0 v23 x3))))))))))))))))
def wp_X7_advance_b58 (t0 m9 : Nat) (post : Int32 → qs_S → Prop) : Nat → qs_S → Nat → Int32 → Int32 → Prop
  | 0 => fun _ _ _ _ => False
  | n9 + 1 => wp_X7_advance_c58 t0 m9 post (wp_X7_advance_b58 t0 m9 post n9)
def wp_X7_advance_b32 (t0 m9 : Nat) (post : Int32 → qs_S → Prop) (S : qs_S) (a0 : Nat) (x1 : Int32) (r0 : Nat) (s1 : Int32) : Prop := (r0 ∈ qs_L S ∧ qs_K S r0 = 7) ∧ ((a0 ∈ qs_L (qs_wI S 0 r0 s1) ∧ qs_K (qs_wI S 0 r0 s1) a0 = 7) ∧ (∀ v28 : Int32, v28 = qs_I (qs_wI S 0 r0 s1) 0 a0 → (v28 ≤ 0 → (∀ v30 : Int32, v30 = qs_I (qs_wI S 0 r0 s1) 1 a0 → ∀ v31 : Int32, v31 = v30 + x1 → ∃ n32 : Nat, wp_X7_advance_b58 t0 m9 post n32 (qs_wI (qs_wI S 0 r0 s1) 1 a0 v31) a0 (0 : Int32) (0 : Int32))) ∧ (¬ v28 ≤ 0 → (post (0 : Int32) (qs_wI S 0 r0 s1)))))
def wp_X7_advance (t0 m9 : Nat) (post : Int32 → qs_S → Prop) (SA : qs_S) (a0z : Nat) (x1z : Int32) : Prop := wp_X7_in t0 m9 (fun (v36 : Int32) (S35 : qs_S) => (¬ v36 = 0 → ((a0z ∈ qs_L S35 ∧ qs_K S35 a0z = 7) ∧ (∀ v40 : Int32, v40 = qs_I S35 1 a0z → ∀ v41 : Int32, v41 = v40 + x1z → (v41 ≤ (5000 : Int32) → (wp_X7_advance_b32 t0 m9 post S35 a0z x1z a0z (0 : Int32))) ∧ (¬ v41 ≤ (5000 : Int32) → (wp_X7_advance_b32 t0 m9 post S35 a0z x1z a0z (2 : Int32)))))) ∧ (v36 = 0 → (wp_X7_advance_b32 t0 m9 post S35 a0z x1z a0z (1 : Int32)))) SA x1z (1 : Int32) (48 : Int32)
set_option maxHeartbeats 4000000 in
set_option maxRecDepth 100000 in
theorem c_X7_advance (l : Launch) (g : qs_G) (sz : Nat) (SA : qs_S) (a0z : Nat) (x1z : Int32) {post : Int32 → qs_S → Prop} (h : wp_X7_advance g.2.2.2.2.2.2.1 g.2.2.2.2.2.2.2 post SA a0z x1z) : Met l yX7_advance wsX7_advance ({ frames := 1, cells := 0, slots := 0, locals := 22 } : Room) (qs_Pc g sz SA [.ref a0z, .int x1z]) (qs_Qi g (qs_F g SA sz) post) 0 0 (qs_F g SA sz) := by
  refine Met.ofW (cc := cX7_advance) (maxL := 4) (ret := (some .int)) (by decide +kernel) rfl ?_
  intro p e s m args below meth c s₁ B hml hv
  obtain ⟨rfl, hsz, hG⟩ := qs_Gd.start hv
  subst hsz
  have hx := B.exec
  have hb := B.bytes
  have hr := B.returns
  have hts := atoms_spec (ws := wsX7_advance) B.pre
  have hown : s.vm.findClass RX7 = some m.cls := findClass_of_methodNamed B.named
  have hlk := B.notSynchronized
  have in7 : ∀ w ∈ u_ws RX7 TX7 35, w ∈ wsX7_advance := fun w h => List.mem_cons_of_mem _ (List.mem_append_right _ (h))
  have b99 : ∀ (K58 : qs_S → Nat → Int32 → Int32 → Prop), (∀ (S : qs_S) (a0 : Nat) (x2 : Int32) (x3 : Int32) (H : Heap) (locs : List Loc) (ls : Array Slot), K58 S a0 x2 x3 → qs_Gd g (qs_F g SA s.heap.size) s S H locs → lv_has ls 4 [(0, .ref a0), (2, .int x2), (3, .int x3)] → W p l e (headSpec wsX7_advance ({ frames := 1, cells := 0, slots := 0, locals := 22 } : Room)).room s m (([.ref a0z, .int x1z] : List Value)).toArray below meth c H locs 0 0 (MQ below (qs_Qi g (qs_F g SA s.heap.size) post) (([.ref a0z, .int x1z] : List Value)).toArray s 0 0 (qs_F g SA s.heap.size)) (F0 m 58 ls [])) → ∀ (S : qs_S) (a0 : Nat) (x2 : Int32) (x3 : Int32) (H : Heap) (locs : List Loc) (ls : Array Slot), wp_X7_advance_b99 g.2.2.2.2.2.2.1 g.2.2.2.2.2.2.2 post K58 S a0 x2 x3 → qs_Gd g (qs_F g SA s.heap.size) s S H locs → lv_has ls 4 [(0, .ref a0), (2, .int x2), (3, .int x3)] → W p l e (headSpec wsX7_advance ({ frames := 1, cells := 0, slots := 0, locals := 22 } : Room)).room s m (([.ref a0z, .int x1z] : List Value)).toArray below meth c H locs 0 0 (MQ below (qs_Qi g (qs_F g SA s.heap.size) post) (([.ref a0z, .int x1z] : List Value)).toArray s 0 0 (qs_F g SA s.heap.size)) (F0 m 99 ls []) := by
    intro K58 hK58 S a0 x2 x3 H locs ls h hG hl
    unfold wp_X7_advance_b99 at h
    obtain ⟨v1, ev1⟩ : ∃ y : Int32, y = x3 + 1 := ⟨_, rfl⟩
    have h := h v1 ev1
    refine lv_iinc (v := v1) (lv' := [(3, .int v1), (0, .ref a0), (2, .int x2)]) hx hb dX7_advance_99 hl (k := 2) rfl (by rw [ev1]; rfl) (by decide) rfl (fun ls hl => ?_)
    refine lv_goto (tgt := 58) hx hb dX7_advance_102 (by decide) ?_
    exact hK58 S a0 x2 v1 _ _ ls h hG (lv_sub hl [1, 2, 0] rfl)
  have c58 : ∀ (K58 : qs_S → Nat → Int32 → Int32 → Prop), (∀ (S : qs_S) (a0 : Nat) (x2 : Int32) (x3 : Int32) (H : Heap) (locs : List Loc) (ls : Array Slot), K58 S a0 x2 x3 → qs_Gd g (qs_F g SA s.heap.size) s S H locs → lv_has ls 4 [(0, .ref a0), (2, .int x2), (3, .int x3)] → W p l e (headSpec wsX7_advance ({ frames := 1, cells := 0, slots := 0, locals := 22 } : Room)).room s m (([.ref a0z, .int x1z] : List Value)).toArray below meth c H locs 0 0 (MQ below (qs_Qi g (qs_F g SA s.heap.size) post) (([.ref a0z, .int x1z] : List Value)).toArray s 0 0 (qs_F g SA s.heap.size)) (F0 m 58 ls [])) → ∀ (S : qs_S) (a0 : Nat) (x2 : Int32) (x3 : Int32) (H : Heap) (locs : List Loc) (ls : Array Slot), wp_X7_advance_c58 g.2.2.2.2.2.2.1 g.2.2.2.2.2.2.2 post K58 S a0 x2 x3 → qs_Gd g (qs_F g SA s.heap.size) s S H locs → lv_has ls 4 [(0, .ref a0), (2, .int x2), (3, .int x3)] → W p l e (headSpec wsX7_advance ({ frames := 1, cells := 0, slots := 0, locals := 22 } : Room)).room s m (([.ref a0z, .int x1z] : List Value)).toArray below meth c H locs 0 0 (MQ below (qs_Qi g (qs_F g SA s.heap.size) post) (([.ref a0z, .int x1z] : List Value)).toArray s 0 0 (qs_F g SA s.heap.size)) (F0 m 58 ls []) := by
    intro K58 hK58 S a0 x2 x3 H locs ls h hG hl
    unfold wp_X7_advance_c58 at h
    refine lv_iload_n hx hb dX7_advance_58 rfl (lv_at hl 2 rfl) ?_
    refine lv_aload_n hx hb dX7_advance_59 rfl (lv_at hl 0 rfl) ?_
    obtain ⟨⟨hL2, fK3⟩, h⟩ := h
    refine qr_get (C := RX7) (T := TX7) (N := 35) (ci := 7) hx hb hts in7 hown hG hL2 fK3 (by decide) rfl 6 (by decide) rfl (hts (.fieldLink RX7 106 "QuayMeshModel" "boxes" "I") (List.mem_of_getElem? (i := 3) rfl)) (fun _ h9 => h9) (v := .int (qs_I S 6 a0)) rfl dX7_advance_60 ?_
    refine lv_topi (fun v4 ev4 => ?_)
    have h := h v4 ev4
    refine lv_icmp_ge (tgt := 105) hx hb dX7_advance_63 (by decide) (fun c5 => ?_) (fun c5 => ?_)
    · have h := h.1 c5
      refine lv_iload_n hx hb dX7_advance_105 rfl (lv_at hl 1 rfl) ?_
      exact qe_i hx hb hr hlk hG h (Nat.le_refl _) (Nat.le_refl _) dX7_advance_106
    · have h := h.2 c5
      refine lv_aload_n hx hb dX7_advance_66 rfl (lv_at hl 0 rfl) ?_
      obtain ⟨q6, eq6, h⟩ := h
      refine qr_get (C := RX7) (T := TX7) (N := 35) (ci := 7) hx hb hts in7 hown hG hL2 fK3 (by decide) rfl 12 (by decide) rfl (hts (.fieldLink RX7 35 "QuayMeshModel" "booked" "[I") (List.mem_of_getElem? (i := 4) rfl)) (fun _ h9 => h9) (v := .ref q6) (qs_rf eq6) dX7_advance_67 ?_
      refine lv_iload_n hx hb dX7_advance_70 rfl (lv_at hl 2 rfl) ?_
      obtain ⟨⟨hL7, fK8⟩, h⟩ := h
      obtain ⟨hi9, h⟩ := h
      refine qr_iald hx hb hG hL7 fK8 hi9 rfl dX7_advance_71 ?_
      refine lv_topi (fun v10 ev10 => ?_)
      have h := h v10 ev10
      refine lv_iconst (v := (-1 : Int32)) hx hb dX7_advance_72 (by decide +kernel) ?_
      refine lv_icmp_eq (tgt := 99) hx hb dX7_advance_73 (by decide) (fun c11 => ?_) (fun c11 => ?_)
      · have h := h.1 c11
        exact b99 K58 hK58 S a0 x2 x3 _ _ ls h hG (lv_sub hl [0, 1, 2] rfl)
      · have h := h.2 c11
        refine lv_aload_n hx hb dX7_advance_76 rfl (lv_at hl 0 rfl) ?_
        obtain ⟨q12, eq12, h⟩ := h
        refine qr_get (C := RX7) (T := TX7) (N := 35) (ci := 7) hx hb hts in7 hown hG hL2 fK3 (by decide) rfl 12 (by decide) rfl (hts (.fieldLink RX7 35 "QuayMeshModel" "booked" "[I") (List.mem_of_getElem? (i := 4) rfl)) (fun _ h9 => h9) (v := .ref q12) (qs_rf eq12) dX7_advance_77 ?_
        refine lv_iload_n hx hb dX7_advance_80 rfl (lv_at hl 2 rfl) ?_
        obtain ⟨⟨hL13, fK14⟩, h⟩ := h
        obtain ⟨hi15, h⟩ := h
        refine qr_iald hx hb hG hL13 fK14 hi15 rfl dX7_advance_81 ?_
        refine lv_topi (fun v16 ev16 => ?_)
        have h := h v16 ev16
        refine lv_aload_n hx hb dX7_advance_82 rfl (lv_at hl 0 rfl) ?_
        refine qr_get (C := RX7) (T := TX7) (N := 35) (ci := 7) hx hb hts in7 hown hG hL2 fK3 (by decide) rfl 1 (by decide) rfl (hts (.fieldLink RX7 172 "QuayMeshModel" "hour" "I") (List.mem_of_getElem? (i := 1) rfl)) (fun _ h9 => h9) (v := .int (qs_I S 1 a0)) rfl dX7_advance_83 ?_
        refine lv_topi (fun v17 ev17 => ?_)
        have h := h v17 ev17
        refine lv_icmp_ge (tgt := 99) hx hb dX7_advance_86 (by decide) (fun c18 => ?_) (fun c18 => ?_)
        · have h := h.1 c18
          exact b99 K58 hK58 S a0 x2 x3 _ _ ls h hG (lv_sub hl [0, 1, 2] rfl)
        · have h := h.2 c18
          refine lv_aload_n hx hb dX7_advance_89 rfl (lv_at hl 0 rfl) ?_
          obtain ⟨q19, eq19, h⟩ := h
          refine qr_get (C := RX7) (T := TX7) (N := 35) (ci := 7) hx hb hts in7 hown hG hL2 fK3 (by decide) rfl 12 (by decide) rfl (hts (.fieldLink RX7 35 "QuayMeshModel" "booked" "[I") (List.mem_of_getElem? (i := 4) rfl)) (fun _ h9 => h9) (v := .ref q19) (qs_rf eq19) dX7_advance_90 ?_
          refine lv_iload_n hx hb dX7_advance_93 rfl (lv_at hl 2 rfl) ?_
          refine lv_iconst (v := (-1 : Int32)) hx hb dX7_advance_94 (by decide +kernel) ?_
          obtain ⟨⟨hL20, fK21⟩, h⟩ := h
          obtain ⟨hi22, h⟩ := h
          refine qr_iast hx hb hG hL20 fK21 hi22 dX7_advance_95 (fun H locs hG => ?_)
          obtain ⟨v23, ev23⟩ : ∃ y : Int32, y = x2 + 1 := ⟨_, rfl⟩
          have h := h v23 ev23
          refine lv_iinc (v := v23) (lv' := [(2, .int v23), (0, .ref a0), (3, .int x3)]) hx hb dX7_advance_96 hl (k := 1) rfl (by rw [ev23]; rfl) (by decide) rfl (fun ls hl => ?_)
          exact b99 K58 hK58 (qs_wA S q19 x3.toNatClampNeg (-1 : Int32)) a0 v23 x3 _ _ ls h hG (lv_sub hl [1, 0, 2] rfl)
  have b58 : ∀ n9 : Nat, ∀ (S : qs_S) (a0 : Nat) (x2 : Int32) (x3 : Int32) (H : Heap) (locs : List Loc) (ls : Array Slot), wp_X7_advance_b58 g.2.2.2.2.2.2.1 g.2.2.2.2.2.2.2 post n9 S a0 x2 x3 → qs_Gd g (qs_F g SA s.heap.size) s S H locs → lv_has ls 4 [(0, .ref a0), (2, .int x2), (3, .int x3)] → W p l e (headSpec wsX7_advance ({ frames := 1, cells := 0, slots := 0, locals := 22 } : Room)).room s m (([.ref a0z, .int x1z] : List Value)).toArray below meth c H locs 0 0 (MQ below (qs_Qi g (qs_F g SA s.heap.size) post) (([.ref a0z, .int x1z] : List Value)).toArray s 0 0 (qs_F g SA s.heap.size)) (F0 m 58 ls []) := by
    intro n9
    induction n9 with
    | zero =>
      intro S a0 x2 x3 H locs ls h hG hl
      exact False.elim h
    | succ n9 ih => exact c58 _ ih
  have b32 : ∀ (S : qs_S) (a0 : Nat) (x1 : Int32) (r0 : Nat) (s1 : Int32) (H : Heap) (locs : List Loc) (ls : Array Slot), wp_X7_advance_b32 g.2.2.2.2.2.2.1 g.2.2.2.2.2.2.2 post S a0 x1 r0 s1 → qs_Gd g (qs_F g SA s.heap.size) s S H locs → lv_has ls 4 [(0, .ref a0), (1, .int x1)] → W p l e (headSpec wsX7_advance ({ frames := 1, cells := 0, slots := 0, locals := 22 } : Room)).room s m (([.ref a0z, .int x1z] : List Value)).toArray below meth c H locs 0 0 (MQ below (qs_Qi g (qs_F g SA s.heap.size) post) (([.ref a0z, .int x1z] : List Value)).toArray s 0 0 (qs_F g SA s.heap.size)) (F0 m 32 ls [.int s1, .ref r0]) := by
    intro S a0 x1 r0 s1 H locs ls h hG hl
    unfold wp_X7_advance_b32 at h
    obtain ⟨⟨hL24, fK25⟩, h⟩ := h
    refine qr_putI (C := RX7) (T := TX7) (N := 35) (ci := 7) hx hb hts in7 tyX7 tyX7_ok nmX7 hown hG hL24 fK25 (by decide) rfl 0 (by decide) rfl (hts (.fieldLink RX7 95 "QuayMeshModel" "thrown" "I") (List.mem_of_getElem? (i := 2) rfl)) (fun _ h9 => h9) rfl (x := s1) (tyX7_ok 0 (by decide)) rfl rfl dX7_advance_32 (fun H locs hG => ?_)
    refine lv_aload_n hx hb dX7_advance_35 rfl (lv_at hl 0 rfl) ?_
    obtain ⟨⟨hL26, fK27⟩, h⟩ := h
    refine qr_get (C := RX7) (T := TX7) (N := 35) (ci := 7) hx hb hts in7 hown hG hL26 fK27 (by decide) rfl 0 (by decide) rfl (hts (.fieldLink RX7 95 "QuayMeshModel" "thrown" "I") (List.mem_of_getElem? (i := 2) rfl)) (fun _ h9 => h9) (v := .int (qs_I (qs_wI S 0 r0 s1) 0 a0)) rfl dX7_advance_36 ?_
    refine lv_topi (fun v28 ev28 => ?_)
    have h := h v28 ev28
    refine lv_if_le (tgt := 44) hx hb dX7_advance_39 (by decide) (fun c29 => ?_) (fun c29 => ?_)
    · have h := h.1 c29
      refine lv_aload_n hx hb dX7_advance_44 rfl (lv_at hl 0 rfl) ?_
      refine lv_dup hx hb dX7_advance_45 rfl ?_
      refine qr_get (C := RX7) (T := TX7) (N := 35) (ci := 7) hx hb hts in7 hown hG hL26 fK27 (by decide) rfl 1 (by decide) rfl (hts (.fieldLink RX7 172 "QuayMeshModel" "hour" "I") (List.mem_of_getElem? (i := 1) rfl)) (fun _ h9 => h9) (v := .int (qs_I (qs_wI S 0 r0 s1) 1 a0)) rfl dX7_advance_46 ?_
      refine lv_topi (fun v30 ev30 => ?_)
      have h := h v30 ev30
      refine lv_iload_n hx hb dX7_advance_49 rfl (lv_at hl 1 rfl) ?_
      refine lv_iadd hx hb dX7_advance_50 ?_
      refine lv_topi (fun v31 ev31 => ?_)
      have h := h v31 ev31
      refine qr_putI (C := RX7) (T := TX7) (N := 35) (ci := 7) hx hb hts in7 tyX7 tyX7_ok nmX7 hown hG hL26 fK27 (by decide) rfl 1 (by decide) rfl (hts (.fieldLink RX7 172 "QuayMeshModel" "hour" "I") (List.mem_of_getElem? (i := 1) rfl)) (fun _ h9 => h9) rfl (x := v31) (tyX7_ok 1 (by decide)) rfl rfl dX7_advance_51 (fun H locs hG => ?_)
      refine lv_iconst (v := (0 : Int32)) hx hb dX7_advance_54 (by decide +kernel) ?_
      refine lv_istore_n (lv' := [(2, .int (0 : Int32)), (0, .ref a0), (1, .int x1)]) hx hb dX7_advance_55 rfl hl (by decide) rfl (fun ls hl => ?_)
      refine lv_iconst (v := (0 : Int32)) hx hb dX7_advance_56 (by decide +kernel) ?_
      refine lv_istore_n (lv' := [(3, .int (0 : Int32)), (2, .int (0 : Int32)), (0, .ref a0), (1, .int x1)]) hx hb dX7_advance_57 rfl hl (by decide) rfl (fun ls hl => ?_)
      obtain ⟨n32, h⟩ := h
      exact b58 n32 (qs_wI (qs_wI S 0 r0 s1) 1 a0 v31) a0 (0 : Int32) (0 : Int32) _ _ ls h hG (lv_sub hl [2, 1, 0] rfl)
    · have h := h.2 c29
      refine lv_iconst (v := (0 : Int32)) hx hb dX7_advance_42 (by decide +kernel) ?_
      exact qe_i hx hb hr hlk hG h (Nat.le_refl _) (Nat.le_refl _) dX7_advance_43
  have hl := lv_entry ([.ref a0z, .int x1z]) (n := 4) (Nat.le_of_ble_eq_true rfl)
  rw [lg_entry_eq]
  generalize (lg_sl ([.ref a0z, .int x1z]) ++ List.replicate (4 - (lg_sl ([.ref a0z, .int x1z])).length) Slot.unset).toArray = ls at hl ⊢
  have hl : lv_has ls 4 [(0, .ref a0z), (1, .int x1z)] := hl
  unfold wp_X7_advance at h
  refine lv_aload_n hx hb dX7_advance_0 rfl (lv_at hl 0 rfl) ?_
  refine lv_iload_n hx hb dX7_advance_1 rfl (lv_at hl 1 rfl) ?_
  refine lv_iconst (v := (1 : Int32)) hx hb dX7_advance_2 (by decide +kernel) ?_
  refine lv_bipush (v := (48 : Int32)) hx hb dX7_advance_3 (by decide +kernel) ?_
  refine qc_i hG (va_runS (As := [.int x1z, .int (1 : Int32), .int (48 : Int32)]) (rest := [.ref a0z]) ⟨hx, hb, hml, hown, hts⟩ (c_X7_in l g _ SA x1z (1 : Int32) (48 : Int32) h) (va_cwS 3 hts gX7_advance_X7_in rfl rfl rfl (by decide +kernel) ⟨(Nat.le_of_ble_eq_true rfl), (Nat.le_of_ble_eq_true rfl)⟩) ⟨qs_Pc.blind _ _ _ _, hG.pre _⟩ rfl rfl hl.1 rfl (lv_room (Nat.le_of_ble_eq_true rfl)) dX7_advance_5 ⟨Nat.zero_le _, Nat.zero_le _⟩) (fun v36 S35 H locs h hG => ?_)
  refine lv_if_ne (tgt := 15) hx hb dX7_advance_8 (by decide) (fun c37 => ?_) (fun c37 => ?_)
  · have h := h.1 c37
    refine lv_aload_n hx hb dX7_advance_15 rfl (lv_at hl 0 rfl) ?_
    obtain ⟨⟨hL38, fK39⟩, h⟩ := h
    refine qr_get (C := RX7) (T := TX7) (N := 35) (ci := 7) hx hb hts in7 hown hG hL38 fK39 (by decide) rfl 1 (by decide) rfl (hts (.fieldLink RX7 172 "QuayMeshModel" "hour" "I") (List.mem_of_getElem? (i := 1) rfl)) (fun _ h9 => h9) (v := .int (qs_I S35 1 a0z)) rfl dX7_advance_16 ?_
    refine lv_topi (fun v40 ev40 => ?_)
    have h := h v40 ev40
    refine lv_iload_n hx hb dX7_advance_19 rfl (lv_at hl 1 rfl) ?_
    refine lv_iadd hx hb dX7_advance_20 ?_
    refine lv_topi (fun v41 ev41 => ?_)
    have h := h v41 ev41
    refine lv_sipush (v := (5000 : Int32)) hx hb dX7_advance_21 (by decide +kernel) ?_
    refine lv_icmp_le (tgt := 31) hx hb dX7_advance_24 (by decide) (fun c42 => ?_) (fun c42 => ?_)
    · have h := h.1 c42
      refine lv_iconst (v := (0 : Int32)) hx hb dX7_advance_31 (by decide +kernel) ?_
      exact b32 S35 a0z x1z a0z (0 : Int32) _ _ ls h hG (lv_sub hl [0, 1] rfl)
    · have h := h.2 c42
      refine lv_iconst (v := (2 : Int32)) hx hb dX7_advance_27 (by decide +kernel) ?_
      refine lv_goto (tgt := 32) hx hb dX7_advance_28 (by decide) ?_
      exact b32 S35 a0z x1z a0z (2 : Int32) _ _ ls h hG (lv_sub hl [0, 1] rfl)
  · have h := h.2 c37
    refine lv_iconst (v := (1 : Int32)) hx hb dX7_advance_11 (by decide +kernel) ?_
    refine lv_goto (tgt := 32) hx hb dX7_advance_12 (by decide) ?_
    exact b32 S35 a0z x1z a0z (1 : Int32) _ _ ls h hG (lv_sub hl [0, 1] rfl)
def wp_X7_hour (t0 m9 : Nat) (post : Int32 → qs_S → Prop) (SA : qs_S) (a0z : Nat) : Prop := (a0z ∈ qs_L SA ∧ qs_K SA a0z = 7) ∧ (∀ v3 : Int32, v3 = qs_I (qs_wI SA 0 a0z (0 : Int32)) 1 a0z → post v3 (qs_wI SA 0 a0z (0 : Int32)))
set_option maxHeartbeats 4000000 in
set_option maxRecDepth 100000 in
theorem c_X7_hour (l : Launch) (g : qs_G) (sz : Nat) (SA : qs_S) (a0z : Nat) {post : Int32 → qs_S → Prop} (h : wp_X7_hour g.2.2.2.2.2.2.1 g.2.2.2.2.2.2.2 post SA a0z) : Met l yX7_hour wsX7_hour ({ frames := 0, cells := 0, slots := 0, locals := 0 } : Room) (qs_Pc g sz SA [.ref a0z]) (qs_Qi g (qs_F g SA sz) post) 0 0 (qs_F g SA sz) := by
  refine Met.ofW (cc := cX7_hour) (maxL := 1) (ret := (some .int)) (by decide +kernel) rfl ?_
  intro p e s m args below meth c s₁ B hml hv
  obtain ⟨rfl, hsz, hG⟩ := qs_Gd.start hv
  subst hsz
  have hx := B.exec
  have hb := B.bytes
  have hr := B.returns
  have hts := atoms_spec (ws := wsX7_hour) B.pre
  have hown : s.vm.findClass RX7 = some m.cls := findClass_of_methodNamed B.named
  have hlk := B.notSynchronized
  have in7 : ∀ w ∈ u_ws RX7 TX7 35, w ∈ wsX7_hour := fun w h => List.mem_cons_of_mem _ (List.mem_append_right _ (h))
  have hl := lv_entry ([.ref a0z]) (n := 1) (Nat.le_of_ble_eq_true rfl)
  rw [lg_entry_eq]
  generalize (lg_sl ([.ref a0z]) ++ List.replicate (1 - (lg_sl ([.ref a0z])).length) Slot.unset).toArray = ls at hl ⊢
  have hl : lv_has ls 1 [(0, .ref a0z)] := hl
  unfold wp_X7_hour at h
  refine lv_aload_n hx hb dX7_hour_0 rfl (lv_at hl 0 rfl) ?_
  refine lv_iconst (v := (0 : Int32)) hx hb dX7_hour_1 (by decide +kernel) ?_
  obtain ⟨⟨hL1, fK2⟩, h⟩ := h
  refine qr_putI (C := RX7) (T := TX7) (N := 35) (ci := 7) hx hb hts in7 tyX7 tyX7_ok nmX7 hown hG hL1 fK2 (by decide) rfl 0 (by decide) rfl (hts (.fieldLink RX7 95 "QuayMeshModel" "thrown" "I") (List.mem_of_getElem? (i := 1) rfl)) (fun _ h9 => h9) rfl (x := (0 : Int32)) (tyX7_ok 0 (by decide)) rfl rfl dX7_hour_2 (fun H locs hG => ?_)
  refine lv_aload_n hx hb dX7_hour_5 rfl (lv_at hl 0 rfl) ?_
  refine qr_get (C := RX7) (T := TX7) (N := 35) (ci := 7) hx hb hts in7 hown hG hL1 fK2 (by decide) rfl 1 (by decide) rfl (hts (.fieldLink RX7 172 "QuayMeshModel" "hour" "I") (List.mem_of_getElem? (i := 2) rfl)) (fun _ h9 => h9) (v := .int (qs_I (qs_wI SA 0 a0z (0 : Int32)) 1 a0z)) rfl dX7_hour_6 ?_
  refine lv_topi (fun v3 ev3 => ?_)
  have h := h v3 ev3
  exact qe_i hx hb hr hlk hG h (Nat.le_refl _) (Nat.le_refl _) dX7_hour_9
def wp_X7_boxes (t0 m9 : Nat) (post : Int32 → qs_S → Prop) (SA : qs_S) (a0z : Nat) : Prop := (a0z ∈ qs_L SA ∧ qs_K SA a0z = 7) ∧ (∀ v3 : Int32, v3 = qs_I (qs_wI SA 0 a0z (0 : Int32)) 6 a0z → post v3 (qs_wI SA 0 a0z (0 : Int32)))
set_option maxHeartbeats 4000000 in
set_option maxRecDepth 100000 in
theorem c_X7_boxes (l : Launch) (g : qs_G) (sz : Nat) (SA : qs_S) (a0z : Nat) {post : Int32 → qs_S → Prop} (h : wp_X7_boxes g.2.2.2.2.2.2.1 g.2.2.2.2.2.2.2 post SA a0z) : Met l yX7_boxes wsX7_boxes ({ frames := 0, cells := 0, slots := 0, locals := 0 } : Room) (qs_Pc g sz SA [.ref a0z]) (qs_Qi g (qs_F g SA sz) post) 0 0 (qs_F g SA sz) := by
  refine Met.ofW (cc := cX7_boxes) (maxL := 1) (ret := (some .int)) (by decide +kernel) rfl ?_
  intro p e s m args below meth c s₁ B hml hv
  obtain ⟨rfl, hsz, hG⟩ := qs_Gd.start hv
  subst hsz
  have hx := B.exec
  have hb := B.bytes
  have hr := B.returns
  have hts := atoms_spec (ws := wsX7_boxes) B.pre
  have hown : s.vm.findClass RX7 = some m.cls := findClass_of_methodNamed B.named
  have hlk := B.notSynchronized
  have in7 : ∀ w ∈ u_ws RX7 TX7 35, w ∈ wsX7_boxes := fun w h => List.mem_cons_of_mem _ (List.mem_append_right _ (h))
  have hl := lv_entry ([.ref a0z]) (n := 1) (Nat.le_of_ble_eq_true rfl)
  rw [lg_entry_eq]
  generalize (lg_sl ([.ref a0z]) ++ List.replicate (1 - (lg_sl ([.ref a0z])).length) Slot.unset).toArray = ls at hl ⊢
  have hl : lv_has ls 1 [(0, .ref a0z)] := hl
  unfold wp_X7_boxes at h
  refine lv_aload_n hx hb dX7_boxes_0 rfl (lv_at hl 0 rfl) ?_
  refine lv_iconst (v := (0 : Int32)) hx hb dX7_boxes_1 (by decide +kernel) ?_
  obtain ⟨⟨hL1, fK2⟩, h⟩ := h
  refine qr_putI (C := RX7) (T := TX7) (N := 35) (ci := 7) hx hb hts in7 tyX7 tyX7_ok nmX7 hown hG hL1 fK2 (by decide) rfl 0 (by decide) rfl (hts (.fieldLink RX7 95 "QuayMeshModel" "thrown" "I") (List.mem_of_getElem? (i := 1) rfl)) (fun _ h9 => h9) rfl (x := (0 : Int32)) (tyX7_ok 0 (by decide)) rfl rfl dX7_boxes_2 (fun H locs hG => ?_)
  refine lv_aload_n hx hb dX7_boxes_5 rfl (lv_at hl 0 rfl) ?_
  refine qr_get (C := RX7) (T := TX7) (N := 35) (ci := 7) hx hb hts in7 hown hG hL1 fK2 (by decide) rfl 6 (by decide) rfl (hts (.fieldLink RX7 106 "QuayMeshModel" "boxes" "I") (List.mem_of_getElem? (i := 2) rfl)) (fun _ h9 => h9) (v := .int (qs_I (qs_wI SA 0 a0z (0 : Int32)) 6 a0z)) rfl dX7_boxes_6 ?_
  refine lv_topi (fun v3 ev3 => ?_)
  have h := h v3 ev3
  exact qe_i hx hb hr hlk hG h (Nat.le_refl _) (Nat.le_refl _) dX7_boxes_9
def wp_X7_asksBox_b29 (t0 m9 : Nat) (post : Int32 → qs_S → Prop) (S : qs_S) (s0 : Int32) : Prop := (s0 = 0 ∨ s0 = 1) ∧ post s0 S
def wp_X7_asksBox_b14 (t0 m9 : Nat) (post : Int32 → qs_S → Prop) (S : qs_S) (a0 : Nat) (r0 : Nat) (s1 : Int32) : Prop := (r0 ∈ qs_L S ∧ qs_K S r0 = 7) ∧ ((a0 ∈ qs_L (qs_wI S 0 r0 s1) ∧ qs_K (qs_wI S 0 r0 s1) a0 = 7) ∧ (∀ v6 : Int32, v6 = qs_I (qs_wI S 0 r0 s1) 0 a0 → (¬ v6 = 0 → (wp_X7_asksBox_b29 t0 m9 post (qs_wI S 0 r0 s1) (0 : Int32))) ∧ (v6 = 0 → (wp_X7_asksBox_b29 t0 m9 post (qs_wI S 0 r0 s1) (1 : Int32)))))
def wp_X7_asksBox (t0 m9 : Nat) (post : Int32 → qs_S → Prop) (SA : qs_S) (a0z : Nat) (x1z : Int32) : Prop := (a0z ∈ qs_L SA ∧ qs_K SA a0z = 7) ∧ (wp_X7_isBox t0 m9 (fun (v13 : Int32) (S12 : qs_S) => (v13 = 0 → (wp_X7_asksBox_b14 t0 m9 post S12 a0z a0z (1 : Int32))) ∧ (¬ v13 = 0 → (wp_X7_asksBox_b14 t0 m9 post S12 a0z a0z (0 : Int32)))) SA a0z x1z)
set_option maxHeartbeats 4000000 in
set_option maxRecDepth 100000 in
theorem c_X7_asksBox (l : Launch) (g : qs_G) (sz : Nat) (SA : qs_S) (a0z : Nat) (x1z : Int32) {post : Int32 → qs_S → Prop} (h : wp_X7_asksBox g.2.2.2.2.2.2.1 g.2.2.2.2.2.2.2 post SA a0z x1z) : Met l yX7_asksBox wsX7_asksBox ({ frames := 2, cells := 0, slots := 0, locals := 43 } : Room) (qs_Pc g sz SA [.ref a0z, .int x1z]) (qs_Qi g (qs_F g SA sz) post) 0 0 (qs_F g SA sz) := by
  refine Met.ofW (cc := cX7_asksBox) (maxL := 2) (ret := (some .boolean)) (by decide +kernel) rfl ?_
  intro p e s m args below meth c s₁ B hml hv
  obtain ⟨rfl, hsz, hG⟩ := qs_Gd.start hv
  subst hsz
  have hx := B.exec
  have hb := B.bytes
  have hr := B.returns
  have hts := atoms_spec (ws := wsX7_asksBox) B.pre
  have hown : s.vm.findClass RX7 = some m.cls := findClass_of_methodNamed B.named
  have hlk := B.notSynchronized
  have in7 : ∀ w ∈ u_ws RX7 TX7 35, w ∈ wsX7_asksBox := fun w h => List.mem_cons_of_mem _ (List.mem_append_right _ (h))
  have b29 : ∀ (S : qs_S) (s0 : Int32) (H : Heap) (locs : List Loc) (ls : Array Slot), wp_X7_asksBox_b29 g.2.2.2.2.2.2.1 g.2.2.2.2.2.2.2 post S s0 → qs_Gd g (qs_F g SA s.heap.size) s S H locs → lv_has ls 2 [] → W p l e (headSpec wsX7_asksBox ({ frames := 2, cells := 0, slots := 0, locals := 43 } : Room)).room s m (([.ref a0z, .int x1z] : List Value)).toArray below meth c H locs 0 0 (MQ below (qs_Qi g (qs_F g SA s.heap.size) post) (([.ref a0z, .int x1z] : List Value)).toArray s 0 0 (qs_F g SA s.heap.size)) (F0 m 29 ls [.int s0]) := by
    intro S s0 H locs ls h hG hl
    unfold wp_X7_asksBox_b29 at h
    obtain ⟨z1, h⟩ := h
    exact qe_z hx hb hr hlk z1 hG h (Nat.le_refl _) (Nat.le_refl _) dX7_asksBox_29
  have b14 : ∀ (S : qs_S) (a0 : Nat) (r0 : Nat) (s1 : Int32) (H : Heap) (locs : List Loc) (ls : Array Slot), wp_X7_asksBox_b14 g.2.2.2.2.2.2.1 g.2.2.2.2.2.2.2 post S a0 r0 s1 → qs_Gd g (qs_F g SA s.heap.size) s S H locs → lv_has ls 2 [(0, .ref a0)] → W p l e (headSpec wsX7_asksBox ({ frames := 2, cells := 0, slots := 0, locals := 43 } : Room)).room s m (([.ref a0z, .int x1z] : List Value)).toArray below meth c H locs 0 0 (MQ below (qs_Qi g (qs_F g SA s.heap.size) post) (([.ref a0z, .int x1z] : List Value)).toArray s 0 0 (qs_F g SA s.heap.size)) (F0 m 14 ls [.int s1, .ref r0]) := by
    intro S a0 r0 s1 H locs ls h hG hl
    unfold wp_X7_asksBox_b14 at h
    obtain ⟨⟨hL2, fK3⟩, h⟩ := h
    refine qr_putI (C := RX7) (T := TX7) (N := 35) (ci := 7) hx hb hts in7 tyX7 tyX7_ok nmX7 hown hG hL2 fK3 (by decide) rfl 0 (by decide) rfl (hts (.fieldLink RX7 95 "QuayMeshModel" "thrown" "I") (List.mem_of_getElem? (i := 1) rfl)) (fun _ h9 => h9) rfl (x := s1) (tyX7_ok 0 (by decide)) rfl rfl dX7_asksBox_14 (fun H locs hG => ?_)
    refine lv_aload_n hx hb dX7_asksBox_17 rfl (lv_at hl 0 rfl) ?_
    obtain ⟨⟨hL4, fK5⟩, h⟩ := h
    refine qr_get (C := RX7) (T := TX7) (N := 35) (ci := 7) hx hb hts in7 hown hG hL4 fK5 (by decide) rfl 0 (by decide) rfl (hts (.fieldLink RX7 95 "QuayMeshModel" "thrown" "I") (List.mem_of_getElem? (i := 1) rfl)) (fun _ h9 => h9) (v := .int (qs_I (qs_wI S 0 r0 s1) 0 a0)) rfl dX7_asksBox_18 ?_
    refine lv_topi (fun v6 ev6 => ?_)
    have h := h v6 ev6
    refine lv_if_ne (tgt := 28) hx hb dX7_asksBox_21 (by decide) (fun c7 => ?_) (fun c7 => ?_)
    · have h := h.1 c7
      refine lv_iconst (v := (0 : Int32)) hx hb dX7_asksBox_28 (by decide +kernel) ?_
      exact b29 (qs_wI S 0 r0 s1) (0 : Int32) _ _ ls h hG (lv_sub hl [] rfl)
    · have h := h.2 c7
      refine lv_iconst (v := (1 : Int32)) hx hb dX7_asksBox_24 (by decide +kernel) ?_
      refine lv_goto (tgt := 29) hx hb dX7_asksBox_25 (by decide) ?_
      exact b29 (qs_wI S 0 r0 s1) (1 : Int32) _ _ ls h hG (lv_sub hl [] rfl)
  have hl := lv_entry ([.ref a0z, .int x1z]) (n := 2) (Nat.le_of_ble_eq_true rfl)
  rw [lg_entry_eq]
  generalize (lg_sl ([.ref a0z, .int x1z]) ++ List.replicate (2 - (lg_sl ([.ref a0z, .int x1z])).length) Slot.unset).toArray = ls at hl ⊢
  have hl : lv_has ls 2 [(0, .ref a0z), (1, .int x1z)] := hl
  unfold wp_X7_asksBox at h
  refine lv_aload_n hx hb dX7_asksBox_0 rfl (lv_at hl 0 rfl) ?_
  refine lv_aload_n hx hb dX7_asksBox_1 rfl (lv_at hl 0 rfl) ?_
  refine lv_iload_n hx hb dX7_asksBox_2 rfl (lv_at hl 1 rfl) ?_
  obtain ⟨⟨hL10, fK11⟩, h⟩ := h
  refine qc_i hG (va_runV (As := [.int x1z]) (rest := [.ref a0z]) ⟨hx, hb, hml, hown, hts⟩ (c_X7_isBox l g _ SA a0z x1z h) (cwV 1 hts gX7_asksBox_X7_isBox rfl rfl rfl (by decide +kernel) ⟨(Nat.le_of_ble_eq_true rfl), (Nat.le_of_ble_eq_true rfl)⟩) ⟨qs_Pc.blind _ _ _ _, hG.recv hL10 fK11 (by decide) rfl, hG.pre _⟩ rfl rfl hl.1 rfl (lv_room (Nat.le_of_ble_eq_true rfl)) dX7_asksBox_3 ⟨Nat.zero_le _, Nat.zero_le _⟩) (fun v13 S12 H locs h hG => ?_)
  refine lv_if_eq (tgt := 13) hx hb dX7_asksBox_6 (by decide) (fun c14 => ?_) (fun c14 => ?_)
  · have h := h.1 c14
    refine lv_iconst (v := (1 : Int32)) hx hb dX7_asksBox_13 (by decide +kernel) ?_
    exact b14 S12 a0z a0z (1 : Int32) _ _ ls h hG (lv_sub hl [0] rfl)
  · have h := h.2 c14
    refine lv_iconst (v := (0 : Int32)) hx hb dX7_asksBox_9 (by decide +kernel) ?_
    refine lv_goto (tgt := 14) hx hb dX7_asksBox_10 (by decide) ?_
    exact b14 S12 a0z a0z (0 : Int32) _ _ ls h hG (lv_sub hl [0] rfl)
def wp_X7_whereIs_b64 (t0 m9 : Nat) (post : Int32 → qs_S → Prop) (S : qs_S) (a0 : Nat) (x1 : Int32) (s0 : Int32) : Prop := (a0 ∈ qs_L S ∧ qs_K S a0 = 7) ∧ (∃ q3 : Nat, qs_R S 9 a0 = some q3 ∧ ((q3 ∈ qs_L S ∧ qs_K S q3 = 8) ∧ (vp_in x1 (qs_Z S q3) ∧ (∀ v7 : Int32, v7 = qs_A S q3 x1.toNatClampNeg → ∀ v8 : Int32, v8 = (100 : Int32) * v7 → ∀ v9 : Int32, v9 = v8 + s0 → post v9 S))))
def wp_X7_whereIs (t0 m9 : Nat) (post : Int32 → qs_S → Prop) (SA : qs_S) (a0z : Nat) (x1z : Int32) : Prop := (a0z ∈ qs_L SA ∧ qs_K SA a0z = 7) ∧ (wp_X7_asksBox t0 m9 (fun (v15 : Int32) (S14 : qs_S) => (¬ v15 = 0 → ((a0z ∈ qs_L S14 ∧ qs_K S14 a0z = 7) ∧ (∃ q19 : Nat, qs_R S14 9 a0z = some q19 ∧ ((q19 ∈ qs_L S14 ∧ qs_K S14 q19 = 8) ∧ (vp_in x1z (qs_Z S14 q19) ∧ (∀ v23 : Int32, v23 = qs_A S14 q19 x1z.toNatClampNeg → ((1 : Int32) < v23 → (∃ q25 : Nat, qs_R S14 9 a0z = some q25 ∧ ((q25 ∈ qs_L S14 ∧ qs_K S14 q25 = 8) ∧ (vp_in x1z (qs_Z S14 q25) ∧ (∀ v29 : Int32, v29 = qs_A S14 q25 x1z.toNatClampNeg → (¬ v29 = (3 : Int32) → (∃ q31 : Nat, qs_R S14 10 a0z = some q31 ∧ ((q31 ∈ qs_L S14 ∧ qs_K S14 q31 = 8) ∧ (vp_in x1z (qs_Z S14 q31) ∧ (∀ v35 : Int32, v35 = qs_A S14 q31 x1z.toNatClampNeg → wp_X7_whereIs_b64 t0 m9 post S14 a0z x1z v35))))) ∧ (v29 = (3 : Int32) → (∃ q36 : Nat, qs_R S14 10 a0z = some q36 ∧ ((q36 ∈ qs_L S14 ∧ qs_K S14 q36 = 8) ∧ (vp_in x1z (qs_Z S14 q36) ∧ (∀ v40 : Int32, v40 = qs_A S14 q36 x1z.toNatClampNeg → ∀ v41 : Int32, v41 = (10 : Int32) * v40 → ∃ q42 : Nat, qs_R S14 15 a0z = some q42 ∧ ((q42 ∈ qs_L S14 ∧ qs_K S14 q42 = 8) ∧ (vp_in x1z (qs_Z S14 q42) ∧ (∀ v46 : Int32, v46 = qs_A S14 q42 x1z.toNatClampNeg → ∀ v47 : Int32, v47 = v41 + v46 → wp_X7_whereIs_b64 t0 m9 post S14 a0z x1z v47))))))))))))) ∧ (¬ (1 : Int32) < v23 → (∃ q48 : Nat, qs_R S14 8 a0z = some q48 ∧ ((q48 ∈ qs_L S14 ∧ qs_K S14 q48 = 8) ∧ (vp_in x1z (qs_Z S14 q48) ∧ (∀ v52 : Int32, v52 = qs_A S14 q48 x1z.toNatClampNeg → wp_X7_whereIs_b64 t0 m9 post S14 a0z x1z v52))))))))))) ∧ (v15 = 0 → (post (0 : Int32) S14))) SA a0z x1z)
set_option maxHeartbeats 4000000 in
set_option maxRecDepth 100000 in
theorem c_X7_whereIs (l : Launch) (g : qs_G) (sz : Nat) (SA : qs_S) (a0z : Nat) (x1z : Int32) {post : Int32 → qs_S → Prop} (h : wp_X7_whereIs g.2.2.2.2.2.2.1 g.2.2.2.2.2.2.2 post SA a0z x1z) : Met l yX7_whereIs wsX7_whereIs ({ frames := 3, cells := 0, slots := 0, locals := 64 } : Room) (qs_Pc g sz SA [.ref a0z, .int x1z]) (qs_Qi g (qs_F g SA sz) post) 0 0 (qs_F g SA sz) := by
  refine Met.ofW (cc := cX7_whereIs) (maxL := 3) (ret := (some .int)) (by decide +kernel) rfl ?_
  intro p e s m args below meth c s₁ B hml hv
  obtain ⟨rfl, hsz, hG⟩ := qs_Gd.start hv
  subst hsz
  have hx := B.exec
  have hb := B.bytes
  have hr := B.returns
  have hts := atoms_spec (ws := wsX7_whereIs) B.pre
  have hown : s.vm.findClass RX7 = some m.cls := findClass_of_methodNamed B.named
  have hlk := B.notSynchronized
  have in7 : ∀ w ∈ u_ws RX7 TX7 35, w ∈ wsX7_whereIs := fun w h => List.mem_cons_of_mem _ (List.mem_append_right _ (h))
  have b64 : ∀ (S : qs_S) (a0 : Nat) (x1 : Int32) (s0 : Int32) (H : Heap) (locs : List Loc) (ls : Array Slot), wp_X7_whereIs_b64 g.2.2.2.2.2.2.1 g.2.2.2.2.2.2.2 post S a0 x1 s0 → qs_Gd g (qs_F g SA s.heap.size) s S H locs → lv_has ls 3 [(0, .ref a0), (1, .int x1)] → W p l e (headSpec wsX7_whereIs ({ frames := 3, cells := 0, slots := 0, locals := 64 } : Room)).room s m (([.ref a0z, .int x1z] : List Value)).toArray below meth c H locs 0 0 (MQ below (qs_Qi g (qs_F g SA s.heap.size) post) (([.ref a0z, .int x1z] : List Value)).toArray s 0 0 (qs_F g SA s.heap.size)) (F0 m 64 ls [.int s0]) := by
    intro S a0 x1 s0 H locs ls h hG hl
    unfold wp_X7_whereIs_b64 at h
    refine lv_istore_n (lv' := [(2, .int s0), (0, .ref a0), (1, .int x1)]) hx hb dX7_whereIs_64 rfl hl (by decide) rfl (fun ls hl => ?_)
    refine lv_bipush (v := (100 : Int32)) hx hb dX7_whereIs_65 (by decide +kernel) ?_
    refine lv_aload_n hx hb dX7_whereIs_67 rfl (lv_at hl 1 rfl) ?_
    obtain ⟨⟨hL1, fK2⟩, h⟩ := h
    obtain ⟨q3, eq3, h⟩ := h
    refine qr_get (C := RX7) (T := TX7) (N := 35) (ci := 7) hx hb hts in7 hown hG hL1 fK2 (by decide) rfl 9 (by decide) rfl (hts (.fieldLink RX7 26 "QuayMeshModel" "where" "[I") (List.mem_of_getElem? (i := 1) rfl)) (fun _ h9 => h9) (v := .ref q3) (qs_rf eq3) dX7_whereIs_68 ?_
    refine lv_iload_n hx hb dX7_whereIs_71 rfl (lv_at hl 2 rfl) ?_
    obtain ⟨⟨hL4, fK5⟩, h⟩ := h
    obtain ⟨hi6, h⟩ := h
    refine qr_iald hx hb hG hL4 fK5 hi6 rfl dX7_whereIs_72 ?_
    refine lv_topi (fun v7 ev7 => ?_)
    have h := h v7 ev7
    refine lv_imul hx hb dX7_whereIs_73 ?_
    refine lv_topi (fun v8 ev8 => ?_)
    have h := h v8 ev8
    refine lv_iload_n hx hb dX7_whereIs_74 rfl (lv_at hl 0 rfl) ?_
    refine lv_iadd hx hb dX7_whereIs_75 ?_
    refine lv_topi (fun v9 ev9 => ?_)
    have h := h v9 ev9
    exact qe_i hx hb hr hlk hG h (Nat.le_refl _) (Nat.le_refl _) dX7_whereIs_76
  have hl := lv_entry ([.ref a0z, .int x1z]) (n := 3) (Nat.le_of_ble_eq_true rfl)
  rw [lg_entry_eq]
  generalize (lg_sl ([.ref a0z, .int x1z]) ++ List.replicate (3 - (lg_sl ([.ref a0z, .int x1z])).length) Slot.unset).toArray = ls at hl ⊢
  have hl : lv_has ls 3 [(0, .ref a0z), (1, .int x1z)] := hl
  unfold wp_X7_whereIs at h
  refine lv_aload_n hx hb dX7_whereIs_0 rfl (lv_at hl 0 rfl) ?_
  refine lv_iload_n hx hb dX7_whereIs_1 rfl (lv_at hl 1 rfl) ?_
  obtain ⟨⟨hL12, fK13⟩, h⟩ := h
  refine qc_i hG (va_runV (As := [.int x1z]) (rest := []) ⟨hx, hb, hml, hown, hts⟩ (c_X7_asksBox l g _ SA a0z x1z h) (cwV 1 hts gX7_whereIs_X7_asksBox rfl rfl rfl (by decide +kernel) ⟨(Nat.le_of_ble_eq_true rfl), (Nat.le_of_ble_eq_true rfl)⟩) ⟨qs_Pc.blind _ _ _ _, hG.recv hL12 fK13 (by decide) rfl, hG.pre _⟩ rfl rfl hl.1 rfl (lv_room (Nat.le_of_ble_eq_true rfl)) dX7_whereIs_2 ⟨Nat.zero_le _, Nat.zero_le _⟩) (fun v15 S14 H locs h hG => ?_)
  refine lv_if_ne (tgt := 10) hx hb dX7_whereIs_5 (by decide) (fun c16 => ?_) (fun c16 => ?_)
  · have h := h.1 c16
    refine lv_aload_n hx hb dX7_whereIs_10 rfl (lv_at hl 0 rfl) ?_
    obtain ⟨⟨hL17, fK18⟩, h⟩ := h
    obtain ⟨q19, eq19, h⟩ := h
    refine qr_get (C := RX7) (T := TX7) (N := 35) (ci := 7) hx hb hts in7 hown hG hL17 fK18 (by decide) rfl 9 (by decide) rfl (hts (.fieldLink RX7 26 "QuayMeshModel" "where" "[I") (List.mem_of_getElem? (i := 1) rfl)) (fun _ h9 => h9) (v := .ref q19) (qs_rf eq19) dX7_whereIs_11 ?_
    refine lv_iload_n hx hb dX7_whereIs_14 rfl (lv_at hl 1 rfl) ?_
    obtain ⟨⟨hL20, fK21⟩, h⟩ := h
    obtain ⟨hi22, h⟩ := h
    refine qr_iald hx hb hG hL20 fK21 hi22 rfl dX7_whereIs_15 ?_
    refine lv_topi (fun v23 ev23 => ?_)
    have h := h v23 ev23
    refine lv_iconst (v := (1 : Int32)) hx hb dX7_whereIs_16 (by decide +kernel) ?_
    refine lv_icmp_gt (tgt := 29) hx hb dX7_whereIs_17 (by decide) (fun c24 => ?_) (fun c24 => ?_)
    · have h := h.1 c24
      refine lv_aload_n hx hb dX7_whereIs_29 rfl (lv_at hl 0 rfl) ?_
      obtain ⟨q25, eq25, h⟩ := h
      refine qr_get (C := RX7) (T := TX7) (N := 35) (ci := 7) hx hb hts in7 hown hG hL17 fK18 (by decide) rfl 9 (by decide) rfl (hts (.fieldLink RX7 26 "QuayMeshModel" "where" "[I") (List.mem_of_getElem? (i := 1) rfl)) (fun _ h9 => h9) (v := .ref q25) (qs_rf eq25) dX7_whereIs_30 ?_
      refine lv_iload_n hx hb dX7_whereIs_33 rfl (lv_at hl 1 rfl) ?_
      obtain ⟨⟨hL26, fK27⟩, h⟩ := h
      obtain ⟨hi28, h⟩ := h
      refine qr_iald hx hb hG hL26 fK27 hi28 rfl dX7_whereIs_34 ?_
      refine lv_topi (fun v29 ev29 => ?_)
      have h := h v29 ev29
      refine lv_iconst (v := (3 : Int32)) hx hb dX7_whereIs_35 (by decide +kernel) ?_
      refine lv_icmp_ne (tgt := 58) hx hb dX7_whereIs_36 (by decide) (fun c30 => ?_) (fun c30 => ?_)
      · have h := h.1 c30
        refine lv_aload_n hx hb dX7_whereIs_58 rfl (lv_at hl 0 rfl) ?_
        obtain ⟨q31, eq31, h⟩ := h
        refine qr_get (C := RX7) (T := TX7) (N := 35) (ci := 7) hx hb hts in7 hown hG hL17 fK18 (by decide) rfl 10 (by decide) rfl (hts (.fieldLink RX7 29 "QuayMeshModel" "at" "[I") (List.mem_of_getElem? (i := 3) rfl)) (fun _ h9 => h9) (v := .ref q31) (qs_rf eq31) dX7_whereIs_59 ?_
        refine lv_iload_n hx hb dX7_whereIs_62 rfl (lv_at hl 1 rfl) ?_
        obtain ⟨⟨hL32, fK33⟩, h⟩ := h
        obtain ⟨hi34, h⟩ := h
        refine qr_iald hx hb hG hL32 fK33 hi34 rfl dX7_whereIs_63 ?_
        refine lv_topi (fun v35 ev35 => ?_)
        have h := h v35 ev35
        exact b64 S14 a0z x1z v35 _ _ ls h hG (lv_sub hl [0, 1] rfl)
      · have h := h.2 c30
        refine lv_bipush (v := (10 : Int32)) hx hb dX7_whereIs_39 (by decide +kernel) ?_
        refine lv_aload_n hx hb dX7_whereIs_41 rfl (lv_at hl 0 rfl) ?_
        obtain ⟨q36, eq36, h⟩ := h
        refine qr_get (C := RX7) (T := TX7) (N := 35) (ci := 7) hx hb hts in7 hown hG hL17 fK18 (by decide) rfl 10 (by decide) rfl (hts (.fieldLink RX7 29 "QuayMeshModel" "at" "[I") (List.mem_of_getElem? (i := 3) rfl)) (fun _ h9 => h9) (v := .ref q36) (qs_rf eq36) dX7_whereIs_42 ?_
        refine lv_iload_n hx hb dX7_whereIs_45 rfl (lv_at hl 1 rfl) ?_
        obtain ⟨⟨hL37, fK38⟩, h⟩ := h
        obtain ⟨hi39, h⟩ := h
        refine qr_iald hx hb hG hL37 fK38 hi39 rfl dX7_whereIs_46 ?_
        refine lv_topi (fun v40 ev40 => ?_)
        have h := h v40 ev40
        refine lv_imul hx hb dX7_whereIs_47 ?_
        refine lv_topi (fun v41 ev41 => ?_)
        have h := h v41 ev41
        refine lv_aload_n hx hb dX7_whereIs_48 rfl (lv_at hl 0 rfl) ?_
        obtain ⟨q42, eq42, h⟩ := h
        refine qr_get (C := RX7) (T := TX7) (N := 35) (ci := 7) hx hb hts in7 hown hG hL17 fK18 (by decide) rfl 15 (by decide) rfl (hts (.fieldLink RX7 44 "QuayMeshModel" "level" "[I") (List.mem_of_getElem? (i := 4) rfl)) (fun _ h9 => h9) (v := .ref q42) (qs_rf eq42) dX7_whereIs_49 ?_
        refine lv_iload_n hx hb dX7_whereIs_52 rfl (lv_at hl 1 rfl) ?_
        obtain ⟨⟨hL43, fK44⟩, h⟩ := h
        obtain ⟨hi45, h⟩ := h
        refine qr_iald hx hb hG hL43 fK44 hi45 rfl dX7_whereIs_53 ?_
        refine lv_topi (fun v46 ev46 => ?_)
        have h := h v46 ev46
        refine lv_iadd hx hb dX7_whereIs_54 ?_
        refine lv_topi (fun v47 ev47 => ?_)
        have h := h v47 ev47
        refine lv_goto (tgt := 64) hx hb dX7_whereIs_55 (by decide) ?_
        exact b64 S14 a0z x1z v47 _ _ ls h hG (lv_sub hl [0, 1] rfl)
    · have h := h.2 c24
      refine lv_aload_n hx hb dX7_whereIs_20 rfl (lv_at hl 0 rfl) ?_
      obtain ⟨q48, eq48, h⟩ := h
      refine qr_get (C := RX7) (T := TX7) (N := 35) (ci := 7) hx hb hts in7 hown hG hL17 fK18 (by decide) rfl 8 (by decide) rfl (hts (.fieldLink RX7 23 "QuayMeshModel" "placeOf" "[I") (List.mem_of_getElem? (i := 2) rfl)) (fun _ h9 => h9) (v := .ref q48) (qs_rf eq48) dX7_whereIs_21 ?_
      refine lv_iload_n hx hb dX7_whereIs_24 rfl (lv_at hl 1 rfl) ?_
      obtain ⟨⟨hL49, fK50⟩, h⟩ := h
      obtain ⟨hi51, h⟩ := h
      refine qr_iald hx hb hG hL49 fK50 hi51 rfl dX7_whereIs_25 ?_
      refine lv_topi (fun v52 ev52 => ?_)
      have h := h v52 ev52
      refine lv_goto (tgt := 64) hx hb dX7_whereIs_26 (by decide) ?_
      exact b64 S14 a0z x1z v52 _ _ ls h hG (lv_sub hl [0, 1] rfl)
  · have h := h.2 c16
    refine lv_iconst (v := (0 : Int32)) hx hb dX7_whereIs_8 (by decide +kernel) ?_
    exact qe_i hx hb hr hlk hG h (Nat.le_refl _) (Nat.le_refl _) dX7_whereIs_9
def wp_X7_whereByLog_b84 (t0 m9 : Nat) (post : Int32 → qs_S → Prop) (K14 : qs_S → Nat → Int32 → Int32 → Int32 → Prop) (S : qs_S) (a0 : Nat) (x1 : Int32) (x3 : Int32) (s0 : Int32) : Prop := ∀ v1 : Int32, v1 = x3 + 1 → K14 S a0 x1 s0 v1
def wp_X7_whereByLog_b74 (t0 m9 : Nat) (post : Int32 → qs_S → Prop) (K14 : qs_S → Nat → Int32 → Int32 → Int32 → Prop) (S : qs_S) (a0 : Nat) (x1 : Int32) (x3 : Int32) : Prop := (a0 ∈ qs_L S ∧ qs_K S a0 = 7) ∧ (∃ q4 : Nat, qs_R S 28 a0 = some q4 ∧ ((q4 ∈ qs_L S ∧ qs_K S q4 = 8) ∧ (vp_in x3 (qs_Z S q4) ∧ (∀ v8 : Int32, v8 = qs_A S q4 x3.toNatClampNeg → wp_X7_whereByLog_b84 t0 m9 post K14 S a0 x1 x3 v8))))
def wp_X7_whereByLog_b83 (t0 m9 : Nat) (post : Int32 → qs_S → Prop) (K14 : qs_S → Nat → Int32 → Int32 → Int32 → Prop) (S : qs_S) (a0 : Nat) (x1 : Int32) (x2 : Int32) (x3 : Int32) : Prop := wp_X7_whereByLog_b84 t0 m9 post K14 S a0 x1 x3 x2
def wp_X7_whereByLog_b42 (t0 m9 : Nat) (post : Int32 → qs_S → Prop) (K14 : qs_S → Nat → Int32 → Int32 → Int32 → Prop) (S : qs_S) (a0 : Nat) (x1 : Int32) (x2 : Int32) (x3 : Int32) (s0 : Int32) : Prop := (s0 = 0 → (wp_X7_whereByLog_b83 t0 m9 post K14 S a0 x1 x2 x3)) ∧ (¬ s0 = 0 → ((x2 = (-1 : Int32) → (wp_X7_whereByLog_b74 t0 m9 post K14 S a0 x1 x3)) ∧ (¬ x2 = (-1 : Int32) → ((a0 ∈ qs_L S ∧ qs_K S a0 = 7) ∧ (∃ q13 : Nat, qs_R S 23 a0 = some q13 ∧ (∃ q14 : Nat, qs_R S 28 a0 = some q14 ∧ ((q14 ∈ qs_L S ∧ qs_K S q14 = 8) ∧ (vp_in x3 (qs_Z S q14) ∧ (∀ v18 : Int32, v18 = qs_A S q14 x3.toNatClampNeg → (q13 ∈ qs_L S ∧ qs_K S q13 = 8) ∧ (vp_in v18 (qs_Z S q13) ∧ (∀ v22 : Int32, v22 = qs_A S q13 v18.toNatClampNeg → ∃ q23 : Nat, qs_R S 23 a0 = some q23 ∧ ((q23 ∈ qs_L S ∧ qs_K S q23 = 8) ∧ (vp_in x2 (qs_Z S q23) ∧ (∀ v27 : Int32, v27 = qs_A S q23 x2.toNatClampNeg → (v22 ≤ v27 → (wp_X7_whereByLog_b83 t0 m9 post K14 S a0 x1 x2 x3)) ∧ (¬ v22 ≤ v27 → (wp_X7_whereByLog_b74 t0 m9 post K14 S a0 x1 x3))))))))))))))))
def wp_X7_whereByLog_b168 (t0 m9 : Nat) (post : Int32 → qs_S → Prop) (S : qs_S) (s0 : Int32) : Prop := post s0 S
def wp_X7_whereByLog_b106 (t0 m9 : Nat) (post : Int32 → qs_S → Prop) (S : qs_S) (a0 : Nat) (x1 : Int32) (x2 : Int32) (s0 : Int32) : Prop := (¬ s0 = (-1 : Int32) → ((¬ s0 = 0 → ((¬ s0 = (1 : Int32) → ((a0 ∈ qs_L S ∧ qs_K S a0 = 7) ∧ (∃ q34 : Nat, qs_R S 21 a0 = some q34 ∧ ((q34 ∈ qs_L S ∧ qs_K S q34 = 8) ∧ (vp_in x2 (qs_Z S q34) ∧ (∀ v38 : Int32, v38 = qs_A S q34 x2.toNatClampNeg → ∀ v39 : Int32, v39 = (400 : Int32) + v38 → wp_X7_whereByLog_b168 t0 m9 post S v39)))))) ∧ (s0 = (1 : Int32) → ((a0 ∈ qs_L S ∧ qs_K S a0 = 7) ∧ (∃ q42 : Nat, qs_R S 21 a0 = some q42 ∧ ((q42 ∈ qs_L S ∧ qs_K S q42 = 8) ∧ (vp_in x2 (qs_Z S q42) ∧ (∀ v46 : Int32, v46 = qs_A S q42 x2.toNatClampNeg → ∀ v47 : Int32, v47 = (10 : Int32) * v46 → ∀ v48 : Int32, v48 = (300 : Int32) + v47 → wp_X7_whereByLog_b168 t0 m9 post S v48)))))))) ∧ (s0 = 0 → ((a0 ∈ qs_L S ∧ qs_K S a0 = 7) ∧ (∃ q51 : Nat, qs_R S 8 a0 = some q51 ∧ ((q51 ∈ qs_L S ∧ qs_K S q51 = 8) ∧ (vp_in x1 (qs_Z S q51) ∧ (∀ v55 : Int32, v55 = qs_A S q51 x1.toNatClampNeg → ∀ v56 : Int32, v56 = (100 : Int32) + v55 → wp_X7_whereByLog_b168 t0 m9 post S v56)))))))) ∧ (s0 = (-1 : Int32) → ((a0 ∈ qs_L S ∧ qs_K S a0 = 7) ∧ (∃ q59 : Nat, qs_R S 8 a0 = some q59 ∧ ((q59 ∈ qs_L S ∧ qs_K S q59 = 8) ∧ (vp_in x1 (qs_Z S q59) ∧ (∀ v63 : Int32, v63 = qs_A S q59 x1.toNatClampNeg → wp_X7_whereByLog_b168 t0 m9 post S v63))))))
def wp_X7_whereByLog_c14 (t0 m9 : Nat) (post : Int32 → qs_S → Prop) (K14 : qs_S → Nat → Int32 → Int32 → Int32 → Prop) (S : qs_S) (a0 : Nat) (x1 : Int32) (x2 : Int32) (x3 : Int32) : Prop := (a0 ∈ qs_L S ∧ qs_K S a0 = 7) ∧ (∀ v66 : Int32, v66 = qs_I S 27 a0 → (v66 ≤ x3 → ((¬ x2 = (-1 : Int32) → (∃ q69 : Nat, qs_R S 19 a0 = some q69 ∧ ((q69 ∈ qs_L S ∧ qs_K S q69 = 8) ∧ (vp_in x2 (qs_Z S q69) ∧ (∀ v73 : Int32, v73 = qs_A S q69 x2.toNatClampNeg → wp_X7_whereByLog_b106 t0 m9 post S a0 x1 x2 v73))))) ∧ (x2 = (-1 : Int32) → (wp_X7_whereByLog_b106 t0 m9 post S a0 x1 x2 (-1 : Int32))))) ∧ (¬ v66 ≤ x3 → (∃ q74 : Nat, qs_R S 20 a0 = some q74 ∧ (∃ q75 : Nat, qs_R S 28 a0 = some q75 ∧ ((q75 ∈ qs_L S ∧ qs_K S q75 = 8) ∧ (vp_in x3 (qs_Z S q75) ∧ (∀ v79 : Int32, v79 = qs_A S q75 x3.toNatClampNeg → (q74 ∈ qs_L S ∧ qs_K S q74 = 8) ∧ (vp_in v79 (qs_Z S q74) ∧ (∀ v83 : Int32, v83 = qs_A S q74 v79.toNatClampNeg → (¬ v83 = x1 → (wp_X7_whereByLog_b42 t0 m9 post K14 S a0 x1 x2 x3 (0 : Int32))) ∧ (v83 = x1 → (wp_X7_whereByLog_b42 t0 m9 post K14 S a0 x1 x2 x3 (1 : Int32))))))))))))
def wp_X7_whereByLog_b14 (t0 m9 : Nat) (post : Int32 → qs_S → Prop) : Nat → qs_S → Nat → Int32 → Int32 → Int32 → Prop
  | 0 => fun _ _ _ _ _ => False
  | n9 + 1 => wp_X7_whereByLog_c14 t0 m9 post (wp_X7_whereByLog_b14 t0 m9 post n9)
def wp_X7_whereByLog (t0 m9 : Nat) (post : Int32 → qs_S → Prop) (SA : qs_S) (a0z : Nat) (x1z : Int32) : Prop := (a0z ∈ qs_L SA ∧ qs_K SA a0z = 7) ∧ (wp_X7_asksBox t0 m9 (fun (v90 : Int32) (S89 : qs_S) => (¬ v90 = 0 → (∃ n92 : Nat, wp_X7_whereByLog_b14 t0 m9 post n92 S89 a0z x1z (-1 : Int32) (0 : Int32))) ∧ (v90 = 0 → (post (0 : Int32) S89))) SA a0z x1z)
set_option maxHeartbeats 4000000 in
set_option maxRecDepth 100000 in
theorem c_X7_whereByLog (l : Launch) (g : qs_G) (sz : Nat) (SA : qs_S) (a0z : Nat) (x1z : Int32) {post : Int32 → qs_S → Prop} (h : wp_X7_whereByLog g.2.2.2.2.2.2.1 g.2.2.2.2.2.2.2 post SA a0z x1z) : Met l yX7_whereByLog wsX7_whereByLog ({ frames := 3, cells := 0, slots := 0, locals := 64 } : Room) (qs_Pc g sz SA [.ref a0z, .int x1z]) (qs_Qi g (qs_F g SA sz) post) 0 0 (qs_F g SA sz) := by
  refine Met.ofW (cc := cX7_whereByLog) (maxL := 5) (ret := (some .int)) (by decide +kernel) rfl ?_
  intro p e s m args below meth c s₁ B hml hv
  obtain ⟨rfl, hsz, hG⟩ := qs_Gd.start hv
  subst hsz
  have hx := B.exec
  have hb := B.bytes
  have hr := B.returns
  have hts := atoms_spec (ws := wsX7_whereByLog) B.pre
  have hown : s.vm.findClass RX7 = some m.cls := findClass_of_methodNamed B.named
  have hlk := B.notSynchronized
  have in7 : ∀ w ∈ u_ws RX7 TX7 35, w ∈ wsX7_whereByLog := fun w h => List.mem_cons_of_mem _ (List.mem_append_right _ (h))
  have b84 : ∀ (K14 : qs_S → Nat → Int32 → Int32 → Int32 → Prop), (∀ (S : qs_S) (a0 : Nat) (x1 : Int32) (x2 : Int32) (x3 : Int32) (H : Heap) (locs : List Loc) (ls : Array Slot), K14 S a0 x1 x2 x3 → qs_Gd g (qs_F g SA s.heap.size) s S H locs → lv_has ls 5 [(0, .ref a0), (1, .int x1), (2, .int x2), (3, .int x3)] → W p l e (headSpec wsX7_whereByLog ({ frames := 3, cells := 0, slots := 0, locals := 64 } : Room)).room s m (([.ref a0z, .int x1z] : List Value)).toArray below meth c H locs 0 0 (MQ below (qs_Qi g (qs_F g SA s.heap.size) post) (([.ref a0z, .int x1z] : List Value)).toArray s 0 0 (qs_F g SA s.heap.size)) (F0 m 14 ls [])) → ∀ (S : qs_S) (a0 : Nat) (x1 : Int32) (x3 : Int32) (s0 : Int32) (H : Heap) (locs : List Loc) (ls : Array Slot), wp_X7_whereByLog_b84 g.2.2.2.2.2.2.1 g.2.2.2.2.2.2.2 post K14 S a0 x1 x3 s0 → qs_Gd g (qs_F g SA s.heap.size) s S H locs → lv_has ls 5 [(0, .ref a0), (1, .int x1), (3, .int x3)] → W p l e (headSpec wsX7_whereByLog ({ frames := 3, cells := 0, slots := 0, locals := 64 } : Room)).room s m (([.ref a0z, .int x1z] : List Value)).toArray below meth c H locs 0 0 (MQ below (qs_Qi g (qs_F g SA s.heap.size) post) (([.ref a0z, .int x1z] : List Value)).toArray s 0 0 (qs_F g SA s.heap.size)) (F0 m 84 ls [.int s0]) := by
    intro K14 hK14 S a0 x1 x3 s0 H locs ls h hG hl
    unfold wp_X7_whereByLog_b84 at h
    refine lv_istore_n (lv' := [(2, .int s0), (0, .ref a0), (1, .int x1), (3, .int x3)]) hx hb dX7_whereByLog_84 rfl hl (by decide) rfl (fun ls hl => ?_)
    obtain ⟨v1, ev1⟩ : ∃ y : Int32, y = x3 + 1 := ⟨_, rfl⟩
    have h := h v1 ev1
    refine lv_iinc (v := v1) (lv' := [(3, .int v1), (2, .int s0), (0, .ref a0), (1, .int x1)]) hx hb dX7_whereByLog_85 hl (k := 3) rfl (by rw [ev1]; rfl) (by decide) rfl (fun ls hl => ?_)
    refine lv_goto (tgt := 14) hx hb dX7_whereByLog_88 (by decide) ?_
    exact hK14 S a0 x1 s0 v1 _ _ ls h hG (lv_sub hl [2, 3, 1, 0] rfl)
  have b74 : ∀ (K14 : qs_S → Nat → Int32 → Int32 → Int32 → Prop), (∀ (S : qs_S) (a0 : Nat) (x1 : Int32) (x2 : Int32) (x3 : Int32) (H : Heap) (locs : List Loc) (ls : Array Slot), K14 S a0 x1 x2 x3 → qs_Gd g (qs_F g SA s.heap.size) s S H locs → lv_has ls 5 [(0, .ref a0), (1, .int x1), (2, .int x2), (3, .int x3)] → W p l e (headSpec wsX7_whereByLog ({ frames := 3, cells := 0, slots := 0, locals := 64 } : Room)).room s m (([.ref a0z, .int x1z] : List Value)).toArray below meth c H locs 0 0 (MQ below (qs_Qi g (qs_F g SA s.heap.size) post) (([.ref a0z, .int x1z] : List Value)).toArray s 0 0 (qs_F g SA s.heap.size)) (F0 m 14 ls [])) → ∀ (S : qs_S) (a0 : Nat) (x1 : Int32) (x3 : Int32) (H : Heap) (locs : List Loc) (ls : Array Slot), wp_X7_whereByLog_b74 g.2.2.2.2.2.2.1 g.2.2.2.2.2.2.2 post K14 S a0 x1 x3 → qs_Gd g (qs_F g SA s.heap.size) s S H locs → lv_has ls 5 [(0, .ref a0), (1, .int x1), (3, .int x3)] → W p l e (headSpec wsX7_whereByLog ({ frames := 3, cells := 0, slots := 0, locals := 64 } : Room)).room s m (([.ref a0z, .int x1z] : List Value)).toArray below meth c H locs 0 0 (MQ below (qs_Qi g (qs_F g SA s.heap.size) post) (([.ref a0z, .int x1z] : List Value)).toArray s 0 0 (qs_F g SA s.heap.size)) (F0 m 74 ls []) := by
    intro K14 hK14 S a0 x1 x3 H locs ls h hG hl
    unfold wp_X7_whereByLog_b74 at h
    refine lv_aload_n hx hb dX7_whereByLog_74 rfl (lv_at hl 0 rfl) ?_
    obtain ⟨⟨hL2, fK3⟩, h⟩ := h
    obtain ⟨q4, eq4, h⟩ := h
    refine qr_get (C := RX7) (T := TX7) (N := 35) (ci := 7) hx hb hts in7 hown hG hL2 fK3 (by decide) rfl 28 (by decide) rfl (hts (.fieldLink RX7 74 "QuayMeshModel" "log" "[I") (List.mem_of_getElem? (i := 3) rfl)) (fun _ h9 => h9) (v := .ref q4) (qs_rf eq4) dX7_whereByLog_75 ?_
    refine lv_iload_n hx hb dX7_whereByLog_78 rfl (lv_at hl 2 rfl) ?_
    obtain ⟨⟨hL5, fK6⟩, h⟩ := h
    obtain ⟨hi7, h⟩ := h
    refine qr_iald hx hb hG hL5 fK6 hi7 rfl dX7_whereByLog_79 ?_
    refine lv_topi (fun v8 ev8 => ?_)
    have h := h v8 ev8
    refine lv_goto (tgt := 84) hx hb dX7_whereByLog_80 (by decide) ?_
    exact b84 K14 hK14 S a0 x1 x3 v8 _ _ ls h hG (lv_sub hl [0, 1, 2] rfl)
  have b83 : ∀ (K14 : qs_S → Nat → Int32 → Int32 → Int32 → Prop), (∀ (S : qs_S) (a0 : Nat) (x1 : Int32) (x2 : Int32) (x3 : Int32) (H : Heap) (locs : List Loc) (ls : Array Slot), K14 S a0 x1 x2 x3 → qs_Gd g (qs_F g SA s.heap.size) s S H locs → lv_has ls 5 [(0, .ref a0), (1, .int x1), (2, .int x2), (3, .int x3)] → W p l e (headSpec wsX7_whereByLog ({ frames := 3, cells := 0, slots := 0, locals := 64 } : Room)).room s m (([.ref a0z, .int x1z] : List Value)).toArray below meth c H locs 0 0 (MQ below (qs_Qi g (qs_F g SA s.heap.size) post) (([.ref a0z, .int x1z] : List Value)).toArray s 0 0 (qs_F g SA s.heap.size)) (F0 m 14 ls [])) → ∀ (S : qs_S) (a0 : Nat) (x1 : Int32) (x2 : Int32) (x3 : Int32) (H : Heap) (locs : List Loc) (ls : Array Slot), wp_X7_whereByLog_b83 g.2.2.2.2.2.2.1 g.2.2.2.2.2.2.2 post K14 S a0 x1 x2 x3 → qs_Gd g (qs_F g SA s.heap.size) s S H locs → lv_has ls 5 [(0, .ref a0), (1, .int x1), (2, .int x2), (3, .int x3)] → W p l e (headSpec wsX7_whereByLog ({ frames := 3, cells := 0, slots := 0, locals := 64 } : Room)).room s m (([.ref a0z, .int x1z] : List Value)).toArray below meth c H locs 0 0 (MQ below (qs_Qi g (qs_F g SA s.heap.size) post) (([.ref a0z, .int x1z] : List Value)).toArray s 0 0 (qs_F g SA s.heap.size)) (F0 m 83 ls []) := by
    intro K14 hK14 S a0 x1 x2 x3 H locs ls h hG hl
    unfold wp_X7_whereByLog_b83 at h
    refine lv_iload_n hx hb dX7_whereByLog_83 rfl (lv_at hl 2 rfl) ?_
    exact b84 K14 hK14 S a0 x1 x3 x2 _ _ ls h hG (lv_sub hl [0, 1, 3] rfl)
  have b42 : ∀ (K14 : qs_S → Nat → Int32 → Int32 → Int32 → Prop), (∀ (S : qs_S) (a0 : Nat) (x1 : Int32) (x2 : Int32) (x3 : Int32) (H : Heap) (locs : List Loc) (ls : Array Slot), K14 S a0 x1 x2 x3 → qs_Gd g (qs_F g SA s.heap.size) s S H locs → lv_has ls 5 [(0, .ref a0), (1, .int x1), (2, .int x2), (3, .int x3)] → W p l e (headSpec wsX7_whereByLog ({ frames := 3, cells := 0, slots := 0, locals := 64 } : Room)).room s m (([.ref a0z, .int x1z] : List Value)).toArray below meth c H locs 0 0 (MQ below (qs_Qi g (qs_F g SA s.heap.size) post) (([.ref a0z, .int x1z] : List Value)).toArray s 0 0 (qs_F g SA s.heap.size)) (F0 m 14 ls [])) → ∀ (S : qs_S) (a0 : Nat) (x1 : Int32) (x2 : Int32) (x3 : Int32) (s0 : Int32) (H : Heap) (locs : List Loc) (ls : Array Slot), wp_X7_whereByLog_b42 g.2.2.2.2.2.2.1 g.2.2.2.2.2.2.2 post K14 S a0 x1 x2 x3 s0 → qs_Gd g (qs_F g SA s.heap.size) s S H locs → lv_has ls 5 [(0, .ref a0), (1, .int x1), (2, .int x2), (3, .int x3)] → W p l e (headSpec wsX7_whereByLog ({ frames := 3, cells := 0, slots := 0, locals := 64 } : Room)).room s m (([.ref a0z, .int x1z] : List Value)).toArray below meth c H locs 0 0 (MQ below (qs_Qi g (qs_F g SA s.heap.size) post) (([.ref a0z, .int x1z] : List Value)).toArray s 0 0 (qs_F g SA s.heap.size)) (F0 m 42 ls [.int s0]) := by
    intro K14 hK14 S a0 x1 x2 x3 s0 H locs ls h hG hl
    unfold wp_X7_whereByLog_b42 at h
    refine lv_istore (lv' := [(4, .int s0), (0, .ref a0), (1, .int x1), (2, .int x2), (3, .int x3)]) hx hb dX7_whereByLog_42 hl (by decide) rfl (fun ls hl => ?_)
    refine lv_iload hx hb dX7_whereByLog_44 (lv_at hl 0 rfl) ?_
    refine lv_if_eq (tgt := 83) hx hb dX7_whereByLog_46 (by decide) (fun c9 => ?_) (fun c9 => ?_)
    · have h := h.1 c9
      exact b83 K14 hK14 S a0 x1 x2 x3 _ _ ls h hG (lv_sub hl [1, 2, 3, 4] rfl)
    · have h := h.2 c9
      refine lv_iload_n hx hb dX7_whereByLog_49 rfl (lv_at hl 3 rfl) ?_
      refine lv_iconst (v := (-1 : Int32)) hx hb dX7_whereByLog_50 (by decide +kernel) ?_
      refine lv_icmp_eq (tgt := 74) hx hb dX7_whereByLog_51 (by decide) (fun c10 => ?_) (fun c10 => ?_)
      · have h := h.1 c10
        exact b74 K14 hK14 S a0 x1 x3 _ _ ls h hG (lv_sub hl [1, 2, 4] rfl)
      · have h := h.2 c10
        refine lv_aload_n hx hb dX7_whereByLog_54 rfl (lv_at hl 1 rfl) ?_
        obtain ⟨⟨hL11, fK12⟩, h⟩ := h
        obtain ⟨q13, eq13, h⟩ := h
        refine qr_get (C := RX7) (T := TX7) (N := 35) (ci := 7) hx hb hts in7 hown hG hL11 fK12 (by decide) rfl 23 (by decide) rfl (hts (.fieldLink RX7 65 "QuayMeshModel" "made" "[I") (List.mem_of_getElem? (i := 4) rfl)) (fun _ h9 => h9) (v := .ref q13) (qs_rf eq13) dX7_whereByLog_55 ?_
        refine lv_aload_n hx hb dX7_whereByLog_58 rfl (lv_at hl 1 rfl) ?_
        obtain ⟨q14, eq14, h⟩ := h
        refine qr_get (C := RX7) (T := TX7) (N := 35) (ci := 7) hx hb hts in7 hown hG hL11 fK12 (by decide) rfl 28 (by decide) rfl (hts (.fieldLink RX7 74 "QuayMeshModel" "log" "[I") (List.mem_of_getElem? (i := 3) rfl)) (fun _ h9 => h9) (v := .ref q14) (qs_rf eq14) dX7_whereByLog_59 ?_
        refine lv_iload_n hx hb dX7_whereByLog_62 rfl (lv_at hl 4 rfl) ?_
        obtain ⟨⟨hL15, fK16⟩, h⟩ := h
        obtain ⟨hi17, h⟩ := h
        refine qr_iald hx hb hG hL15 fK16 hi17 rfl dX7_whereByLog_63 ?_
        refine lv_topi (fun v18 ev18 => ?_)
        have h := h v18 ev18
        obtain ⟨⟨hL19, fK20⟩, h⟩ := h
        obtain ⟨hi21, h⟩ := h
        refine qr_iald hx hb hG hL19 fK20 hi21 rfl dX7_whereByLog_64 ?_
        refine lv_topi (fun v22 ev22 => ?_)
        have h := h v22 ev22
        refine lv_aload_n hx hb dX7_whereByLog_65 rfl (lv_at hl 1 rfl) ?_
        obtain ⟨q23, eq23, h⟩ := h
        refine qr_get (C := RX7) (T := TX7) (N := 35) (ci := 7) hx hb hts in7 hown hG hL11 fK12 (by decide) rfl 23 (by decide) rfl (hts (.fieldLink RX7 65 "QuayMeshModel" "made" "[I") (List.mem_of_getElem? (i := 4) rfl)) (fun _ h9 => h9) (v := .ref q23) (qs_rf eq23) dX7_whereByLog_66 ?_
        refine lv_iload_n hx hb dX7_whereByLog_69 rfl (lv_at hl 3 rfl) ?_
        obtain ⟨⟨hL24, fK25⟩, h⟩ := h
        obtain ⟨hi26, h⟩ := h
        refine qr_iald hx hb hG hL24 fK25 hi26 rfl dX7_whereByLog_70 ?_
        refine lv_topi (fun v27 ev27 => ?_)
        have h := h v27 ev27
        refine lv_icmp_le (tgt := 83) hx hb dX7_whereByLog_71 (by decide) (fun c28 => ?_) (fun c28 => ?_)
        · have h := h.1 c28
          exact b83 K14 hK14 S a0 x1 x2 x3 _ _ ls h hG (lv_sub hl [1, 2, 3, 4] rfl)
        · have h := h.2 c28
          exact b74 K14 hK14 S a0 x1 x3 _ _ ls h hG (lv_sub hl [1, 2, 4] rfl)
  have b168 : ∀ (S : qs_S) (s0 : Int32) (H : Heap) (locs : List Loc) (ls : Array Slot), wp_X7_whereByLog_b168 g.2.2.2.2.2.2.1 g.2.2.2.2.2.2.2 post S s0 → qs_Gd g (qs_F g SA s.heap.size) s S H locs → lv_has ls 5 [] → W p l e (headSpec wsX7_whereByLog ({ frames := 3, cells := 0, slots := 0, locals := 64 } : Room)).room s m (([.ref a0z, .int x1z] : List Value)).toArray below meth c H locs 0 0 (MQ below (qs_Qi g (qs_F g SA s.heap.size) post) (([.ref a0z, .int x1z] : List Value)).toArray s 0 0 (qs_F g SA s.heap.size)) (F0 m 168 ls [.int s0]) := by
    intro S s0 H locs ls h hG hl
    unfold wp_X7_whereByLog_b168 at h
    exact qe_i hx hb hr hlk hG h (Nat.le_refl _) (Nat.le_refl _) dX7_whereByLog_168
  have b106 : ∀ (S : qs_S) (a0 : Nat) (x1 : Int32) (x2 : Int32) (s0 : Int32) (H : Heap) (locs : List Loc) (ls : Array Slot), wp_X7_whereByLog_b106 g.2.2.2.2.2.2.1 g.2.2.2.2.2.2.2 post S a0 x1 x2 s0 → qs_Gd g (qs_F g SA s.heap.size) s S H locs → lv_has ls 5 [(0, .ref a0), (1, .int x1), (2, .int x2)] → W p l e (headSpec wsX7_whereByLog ({ frames := 3, cells := 0, slots := 0, locals := 64 } : Room)).room s m (([.ref a0z, .int x1z] : List Value)).toArray below meth c H locs 0 0 (MQ below (qs_Qi g (qs_F g SA s.heap.size) post) (([.ref a0z, .int x1z] : List Value)).toArray s 0 0 (qs_F g SA s.heap.size)) (F0 m 106 ls [.int s0]) := by
    intro S a0 x1 x2 s0 H locs ls h hG hl
    unfold wp_X7_whereByLog_b106 at h
    refine lv_istore_n (lv' := [(3, .int s0), (0, .ref a0), (1, .int x1), (2, .int x2)]) hx hb dX7_whereByLog_106 rfl hl (by decide) rfl (fun ls hl => ?_)
    refine lv_iload_n hx hb dX7_whereByLog_107 rfl (lv_at hl 0 rfl) ?_
    refine lv_iconst (v := (-1 : Int32)) hx hb dX7_whereByLog_108 (by decide +kernel) ?_
    refine lv_icmp_ne (tgt := 121) hx hb dX7_whereByLog_109 (by decide) (fun c29 => ?_) (fun c29 => ?_)
    · have h := h.1 c29
      refine lv_iload_n hx hb dX7_whereByLog_121 rfl (lv_at hl 0 rfl) ?_
      refine lv_if_ne (tgt := 137) hx hb dX7_whereByLog_122 (by decide) (fun c30 => ?_) (fun c30 => ?_)
      · have h := h.1 c30
        refine lv_iload_n hx hb dX7_whereByLog_137 rfl (lv_at hl 0 rfl) ?_
        refine lv_iconst (v := (1 : Int32)) hx hb dX7_whereByLog_138 (by decide +kernel) ?_
        refine lv_icmp_ne (tgt := 158) hx hb dX7_whereByLog_139 (by decide) (fun c31 => ?_) (fun c31 => ?_)
        · have h := h.1 c31
          refine lv_sipush (v := (400 : Int32)) hx hb dX7_whereByLog_158 (by decide +kernel) ?_
          refine lv_aload_n hx hb dX7_whereByLog_161 rfl (lv_at hl 1 rfl) ?_
          obtain ⟨⟨hL32, fK33⟩, h⟩ := h
          obtain ⟨q34, eq34, h⟩ := h
          refine qr_get (C := RX7) (T := TX7) (N := 35) (ci := 7) hx hb hts in7 hown hG hL32 fK33 (by decide) rfl 21 (by decide) rfl (hts (.fieldLink RX7 59 "QuayMeshModel" "target" "[I") (List.mem_of_getElem? (i := 7) rfl)) (fun _ h9 => h9) (v := .ref q34) (qs_rf eq34) dX7_whereByLog_162 ?_
          refine lv_iload_n hx hb dX7_whereByLog_165 rfl (lv_at hl 3 rfl) ?_
          obtain ⟨⟨hL35, fK36⟩, h⟩ := h
          obtain ⟨hi37, h⟩ := h
          refine qr_iald hx hb hG hL35 fK36 hi37 rfl dX7_whereByLog_166 ?_
          refine lv_topi (fun v38 ev38 => ?_)
          have h := h v38 ev38
          refine lv_iadd hx hb dX7_whereByLog_167 ?_
          refine lv_topi (fun v39 ev39 => ?_)
          have h := h v39 ev39
          exact b168 S v39 _ _ ls h hG (lv_sub hl [] rfl)
        · have h := h.2 c31
          refine lv_sipush (v := (300 : Int32)) hx hb dX7_whereByLog_142 (by decide +kernel) ?_
          refine lv_bipush (v := (10 : Int32)) hx hb dX7_whereByLog_145 (by decide +kernel) ?_
          refine lv_aload_n hx hb dX7_whereByLog_147 rfl (lv_at hl 1 rfl) ?_
          obtain ⟨⟨hL40, fK41⟩, h⟩ := h
          obtain ⟨q42, eq42, h⟩ := h
          refine qr_get (C := RX7) (T := TX7) (N := 35) (ci := 7) hx hb hts in7 hown hG hL40 fK41 (by decide) rfl 21 (by decide) rfl (hts (.fieldLink RX7 59 "QuayMeshModel" "target" "[I") (List.mem_of_getElem? (i := 7) rfl)) (fun _ h9 => h9) (v := .ref q42) (qs_rf eq42) dX7_whereByLog_148 ?_
          refine lv_iload_n hx hb dX7_whereByLog_151 rfl (lv_at hl 3 rfl) ?_
          obtain ⟨⟨hL43, fK44⟩, h⟩ := h
          obtain ⟨hi45, h⟩ := h
          refine qr_iald hx hb hG hL43 fK44 hi45 rfl dX7_whereByLog_152 ?_
          refine lv_topi (fun v46 ev46 => ?_)
          have h := h v46 ev46
          refine lv_imul hx hb dX7_whereByLog_153 ?_
          refine lv_topi (fun v47 ev47 => ?_)
          have h := h v47 ev47
          refine lv_iadd hx hb dX7_whereByLog_154 ?_
          refine lv_topi (fun v48 ev48 => ?_)
          have h := h v48 ev48
          refine lv_goto (tgt := 168) hx hb dX7_whereByLog_155 (by decide) ?_
          exact b168 S v48 _ _ ls h hG (lv_sub hl [] rfl)
      · have h := h.2 c30
        refine lv_bipush (v := (100 : Int32)) hx hb dX7_whereByLog_125 (by decide +kernel) ?_
        refine lv_aload_n hx hb dX7_whereByLog_127 rfl (lv_at hl 1 rfl) ?_
        obtain ⟨⟨hL49, fK50⟩, h⟩ := h
        obtain ⟨q51, eq51, h⟩ := h
        refine qr_get (C := RX7) (T := TX7) (N := 35) (ci := 7) hx hb hts in7 hown hG hL49 fK50 (by decide) rfl 8 (by decide) rfl (hts (.fieldLink RX7 23 "QuayMeshModel" "placeOf" "[I") (List.mem_of_getElem? (i := 6) rfl)) (fun _ h9 => h9) (v := .ref q51) (qs_rf eq51) dX7_whereByLog_128 ?_
        refine lv_iload_n hx hb dX7_whereByLog_131 rfl (lv_at hl 2 rfl) ?_
        obtain ⟨⟨hL52, fK53⟩, h⟩ := h
        obtain ⟨hi54, h⟩ := h
        refine qr_iald hx hb hG hL52 fK53 hi54 rfl dX7_whereByLog_132 ?_
        refine lv_topi (fun v55 ev55 => ?_)
        have h := h v55 ev55
        refine lv_iadd hx hb dX7_whereByLog_133 ?_
        refine lv_topi (fun v56 ev56 => ?_)
        have h := h v56 ev56
        refine lv_goto (tgt := 168) hx hb dX7_whereByLog_134 (by decide) ?_
        exact b168 S v56 _ _ ls h hG (lv_sub hl [] rfl)
    · have h := h.2 c29
      refine lv_aload_n hx hb dX7_whereByLog_112 rfl (lv_at hl 1 rfl) ?_
      obtain ⟨⟨hL57, fK58⟩, h⟩ := h
      obtain ⟨q59, eq59, h⟩ := h
      refine qr_get (C := RX7) (T := TX7) (N := 35) (ci := 7) hx hb hts in7 hown hG hL57 fK58 (by decide) rfl 8 (by decide) rfl (hts (.fieldLink RX7 23 "QuayMeshModel" "placeOf" "[I") (List.mem_of_getElem? (i := 6) rfl)) (fun _ h9 => h9) (v := .ref q59) (qs_rf eq59) dX7_whereByLog_113 ?_
      refine lv_iload_n hx hb dX7_whereByLog_116 rfl (lv_at hl 2 rfl) ?_
      obtain ⟨⟨hL60, fK61⟩, h⟩ := h
      obtain ⟨hi62, h⟩ := h
      refine qr_iald hx hb hG hL60 fK61 hi62 rfl dX7_whereByLog_117 ?_
      refine lv_topi (fun v63 ev63 => ?_)
      have h := h v63 ev63
      refine lv_goto (tgt := 168) hx hb dX7_whereByLog_118 (by decide) ?_
      exact b168 S v63 _ _ ls h hG (lv_sub hl [] rfl)
  have c14 : ∀ (K14 : qs_S → Nat → Int32 → Int32 → Int32 → Prop), (∀ (S : qs_S) (a0 : Nat) (x1 : Int32) (x2 : Int32) (x3 : Int32) (H : Heap) (locs : List Loc) (ls : Array Slot), K14 S a0 x1 x2 x3 → qs_Gd g (qs_F g SA s.heap.size) s S H locs → lv_has ls 5 [(0, .ref a0), (1, .int x1), (2, .int x2), (3, .int x3)] → W p l e (headSpec wsX7_whereByLog ({ frames := 3, cells := 0, slots := 0, locals := 64 } : Room)).room s m (([.ref a0z, .int x1z] : List Value)).toArray below meth c H locs 0 0 (MQ below (qs_Qi g (qs_F g SA s.heap.size) post) (([.ref a0z, .int x1z] : List Value)).toArray s 0 0 (qs_F g SA s.heap.size)) (F0 m 14 ls [])) → ∀ (S : qs_S) (a0 : Nat) (x1 : Int32) (x2 : Int32) (x3 : Int32) (H : Heap) (locs : List Loc) (ls : Array Slot), wp_X7_whereByLog_c14 g.2.2.2.2.2.2.1 g.2.2.2.2.2.2.2 post K14 S a0 x1 x2 x3 → qs_Gd g (qs_F g SA s.heap.size) s S H locs → lv_has ls 5 [(0, .ref a0), (1, .int x1), (2, .int x2), (3, .int x3)] → W p l e (headSpec wsX7_whereByLog ({ frames := 3, cells := 0, slots := 0, locals := 64 } : Room)).room s m (([.ref a0z, .int x1z] : List Value)).toArray below meth c H locs 0 0 (MQ below (qs_Qi g (qs_F g SA s.heap.size) post) (([.ref a0z, .int x1z] : List Value)).toArray s 0 0 (qs_F g SA s.heap.size)) (F0 m 14 ls []) := by
    intro K14 hK14 S a0 x1 x2 x3 H locs ls h hG hl
    unfold wp_X7_whereByLog_c14 at h
    refine lv_iload_n hx hb dX7_whereByLog_14 rfl (lv_at hl 3 rfl) ?_
    refine lv_aload_n hx hb dX7_whereByLog_15 rfl (lv_at hl 0 rfl) ?_
    obtain ⟨⟨hL64, fK65⟩, h⟩ := h
    refine qr_get (C := RX7) (T := TX7) (N := 35) (ci := 7) hx hb hts in7 hown hG hL64 fK65 (by decide) rfl 27 (by decide) rfl (hts (.fieldLink RX7 143 "QuayMeshModel" "logged" "I") (List.mem_of_getElem? (i := 1) rfl)) (fun _ h9 => h9) (v := .int (qs_I S 27 a0)) rfl dX7_whereByLog_16 ?_
    refine lv_topi (fun v66 ev66 => ?_)
    have h := h v66 ev66
    refine lv_icmp_ge (tgt := 91) hx hb dX7_whereByLog_19 (by decide) (fun c67 => ?_) (fun c67 => ?_)
    · have h := h.1 c67
      refine lv_iload_n hx hb dX7_whereByLog_91 rfl (lv_at hl 2 rfl) ?_
      refine lv_iconst (v := (-1 : Int32)) hx hb dX7_whereByLog_92 (by decide +kernel) ?_
      refine lv_icmp_ne (tgt := 100) hx hb dX7_whereByLog_93 (by decide) (fun c68 => ?_) (fun c68 => ?_)
      · have h := h.1 c68
        refine lv_aload_n hx hb dX7_whereByLog_100 rfl (lv_at hl 0 rfl) ?_
        obtain ⟨q69, eq69, h⟩ := h
        refine qr_get (C := RX7) (T := TX7) (N := 35) (ci := 7) hx hb hts in7 hown hG hL64 fK65 (by decide) rfl 19 (by decide) rfl (hts (.fieldLink RX7 53 "QuayMeshModel" "kind" "[I") (List.mem_of_getElem? (i := 5) rfl)) (fun _ h9 => h9) (v := .ref q69) (qs_rf eq69) dX7_whereByLog_101 ?_
        refine lv_iload_n hx hb dX7_whereByLog_104 rfl (lv_at hl 2 rfl) ?_
        obtain ⟨⟨hL70, fK71⟩, h⟩ := h
        obtain ⟨hi72, h⟩ := h
        refine qr_iald hx hb hG hL70 fK71 hi72 rfl dX7_whereByLog_105 ?_
        refine lv_topi (fun v73 ev73 => ?_)
        have h := h v73 ev73
        exact b106 S a0 x1 x2 v73 _ _ ls h hG (lv_sub hl [0, 1, 2] rfl)
      · have h := h.2 c68
        refine lv_iconst (v := (-1 : Int32)) hx hb dX7_whereByLog_96 (by decide +kernel) ?_
        refine lv_goto (tgt := 106) hx hb dX7_whereByLog_97 (by decide) ?_
        exact b106 S a0 x1 x2 (-1 : Int32) _ _ ls h hG (lv_sub hl [0, 1, 2] rfl)
    · have h := h.2 c67
      refine lv_aload_n hx hb dX7_whereByLog_22 rfl (lv_at hl 0 rfl) ?_
      obtain ⟨q74, eq74, h⟩ := h
      refine qr_get (C := RX7) (T := TX7) (N := 35) (ci := 7) hx hb hts in7 hown hG hL64 fK65 (by decide) rfl 20 (by decide) rfl (hts (.fieldLink RX7 56 "QuayMeshModel" "box" "[I") (List.mem_of_getElem? (i := 2) rfl)) (fun _ h9 => h9) (v := .ref q74) (qs_rf eq74) dX7_whereByLog_23 ?_
      refine lv_aload_n hx hb dX7_whereByLog_26 rfl (lv_at hl 0 rfl) ?_
      obtain ⟨q75, eq75, h⟩ := h
      refine qr_get (C := RX7) (T := TX7) (N := 35) (ci := 7) hx hb hts in7 hown hG hL64 fK65 (by decide) rfl 28 (by decide) rfl (hts (.fieldLink RX7 74 "QuayMeshModel" "log" "[I") (List.mem_of_getElem? (i := 3) rfl)) (fun _ h9 => h9) (v := .ref q75) (qs_rf eq75) dX7_whereByLog_27 ?_
      refine lv_iload_n hx hb dX7_whereByLog_30 rfl (lv_at hl 3 rfl) ?_
      obtain ⟨⟨hL76, fK77⟩, h⟩ := h
      obtain ⟨hi78, h⟩ := h
      refine qr_iald hx hb hG hL76 fK77 hi78 rfl dX7_whereByLog_31 ?_
      refine lv_topi (fun v79 ev79 => ?_)
      have h := h v79 ev79
      obtain ⟨⟨hL80, fK81⟩, h⟩ := h
      obtain ⟨hi82, h⟩ := h
      refine qr_iald hx hb hG hL80 fK81 hi82 rfl dX7_whereByLog_32 ?_
      refine lv_topi (fun v83 ev83 => ?_)
      have h := h v83 ev83
      refine lv_iload_n hx hb dX7_whereByLog_33 rfl (lv_at hl 1 rfl) ?_
      refine lv_icmp_ne (tgt := 41) hx hb dX7_whereByLog_34 (by decide) (fun c84 => ?_) (fun c84 => ?_)
      · have h := h.1 c84
        refine lv_iconst (v := (0 : Int32)) hx hb dX7_whereByLog_41 (by decide +kernel) ?_
        exact b42 K14 hK14 S a0 x1 x2 x3 (0 : Int32) _ _ ls h hG (lv_sub hl [0, 1, 2, 3] rfl)
      · have h := h.2 c84
        refine lv_iconst (v := (1 : Int32)) hx hb dX7_whereByLog_37 (by decide +kernel) ?_
        refine lv_goto (tgt := 42) hx hb dX7_whereByLog_38 (by decide) ?_
        exact b42 K14 hK14 S a0 x1 x2 x3 (1 : Int32) _ _ ls h hG (lv_sub hl [0, 1, 2, 3] rfl)
  have b14 : ∀ n9 : Nat, ∀ (S : qs_S) (a0 : Nat) (x1 : Int32) (x2 : Int32) (x3 : Int32) (H : Heap) (locs : List Loc) (ls : Array Slot), wp_X7_whereByLog_b14 g.2.2.2.2.2.2.1 g.2.2.2.2.2.2.2 post n9 S a0 x1 x2 x3 → qs_Gd g (qs_F g SA s.heap.size) s S H locs → lv_has ls 5 [(0, .ref a0), (1, .int x1), (2, .int x2), (3, .int x3)] → W p l e (headSpec wsX7_whereByLog ({ frames := 3, cells := 0, slots := 0, locals := 64 } : Room)).room s m (([.ref a0z, .int x1z] : List Value)).toArray below meth c H locs 0 0 (MQ below (qs_Qi g (qs_F g SA s.heap.size) post) (([.ref a0z, .int x1z] : List Value)).toArray s 0 0 (qs_F g SA s.heap.size)) (F0 m 14 ls []) := by
    intro n9
    induction n9 with
    | zero =>
      intro S a0 x1 x2 x3 H locs ls h hG hl
      exact False.elim h
    | succ n9 ih => exact c14 _ ih
  have hl := lv_entry ([.ref a0z, .int x1z]) (n := 5) (Nat.le_of_ble_eq_true rfl)
  rw [lg_entry_eq]
  generalize (lg_sl ([.ref a0z, .int x1z]) ++ List.replicate (5 - (lg_sl ([.ref a0z, .int x1z])).length) Slot.unset).toArray = ls at hl ⊢
  have hl : lv_has ls 5 [(0, .ref a0z), (1, .int x1z)] := hl
  unfold wp_X7_whereByLog at h
  refine lv_aload_n hx hb dX7_whereByLog_0 rfl (lv_at hl 0 rfl) ?_
  refine lv_iload_n hx hb dX7_whereByLog_1 rfl (lv_at hl 1 rfl) ?_
  obtain ⟨⟨hL87, fK88⟩, h⟩ := h
  refine qc_i hG (va_runV (As := [.int x1z]) (rest := []) ⟨hx, hb, hml, hown, hts⟩ (c_X7_asksBox l g _ SA a0z x1z h) (cwV 1 hts gX7_whereByLog_X7_asksBox rfl rfl rfl (by decide +kernel) ⟨(Nat.le_of_ble_eq_true rfl), (Nat.le_of_ble_eq_true rfl)⟩) ⟨qs_Pc.blind _ _ _ _, hG.recv hL87 fK88 (by decide) rfl, hG.pre _⟩ rfl rfl hl.1 rfl (lv_room (Nat.le_of_ble_eq_true rfl)) dX7_whereByLog_2 ⟨Nat.zero_le _, Nat.zero_le _⟩) (fun v90 S89 H locs h hG => ?_)
  refine lv_if_ne (tgt := 10) hx hb dX7_whereByLog_5 (by decide) (fun c91 => ?_) (fun c91 => ?_)
  · have h := h.1 c91
    refine lv_iconst (v := (-1 : Int32)) hx hb dX7_whereByLog_10 (by decide +kernel) ?_
    refine lv_istore_n (lv' := [(2, .int (-1 : Int32)), (0, .ref a0z), (1, .int x1z)]) hx hb dX7_whereByLog_11 rfl hl (by decide) rfl (fun ls hl => ?_)
    refine lv_iconst (v := (0 : Int32)) hx hb dX7_whereByLog_12 (by decide +kernel) ?_
    refine lv_istore_n (lv' := [(3, .int (0 : Int32)), (2, .int (-1 : Int32)), (0, .ref a0z), (1, .int x1z)]) hx hb dX7_whereByLog_13 rfl hl (by decide) rfl (fun ls hl => ?_)
    obtain ⟨n92, h⟩ := h
    exact b14 n92 S89 a0z x1z (-1 : Int32) (0 : Int32) _ _ ls h hG (lv_sub hl [2, 3, 1, 0] rfl)
  · have h := h.2 c91
    refine lv_iconst (v := (0 : Int32)) hx hb dX7_whereByLog_8 (by decide +kernel) ?_
    exact qe_i hx hb hr hlk hG h (Nat.le_refl _) (Nat.le_refl _) dX7_whereByLog_9
def wp_X7_liftedBy_b18 (t0 m9 : Nat) (post : Int32 → qs_S → Prop) (S : qs_S) (s0 : Int32) : Prop := post s0 S
def wp_X7_liftedBy (t0 m9 : Nat) (post : Int32 → qs_S → Prop) (SA : qs_S) (a0z : Nat) (x1z : Int32) : Prop := (a0z ∈ qs_L SA ∧ qs_K SA a0z = 7) ∧ (wp_X7_asksBox t0 m9 (fun (v6 : Int32) (S5 : qs_S) => (v6 = 0 → (wp_X7_liftedBy_b18 t0 m9 post S5 (0 : Int32))) ∧ (¬ v6 = 0 → ((a0z ∈ qs_L S5 ∧ qs_K S5 a0z = 7) ∧ (∃ q10 : Nat, qs_R S5 11 a0z = some q10 ∧ ((q10 ∈ qs_L S5 ∧ qs_K S5 q10 = 8) ∧ (vp_in x1z (qs_Z S5 q10) ∧ (∀ v14 : Int32, v14 = qs_A S5 q10 x1z.toNatClampNeg → wp_X7_liftedBy_b18 t0 m9 post S5 v14))))))) SA a0z x1z)
set_option maxHeartbeats 4000000 in
set_option maxRecDepth 100000 in
theorem c_X7_liftedBy (l : Launch) (g : qs_G) (sz : Nat) (SA : qs_S) (a0z : Nat) (x1z : Int32) {post : Int32 → qs_S → Prop} (h : wp_X7_liftedBy g.2.2.2.2.2.2.1 g.2.2.2.2.2.2.2 post SA a0z x1z) : Met l yX7_liftedBy wsX7_liftedBy ({ frames := 3, cells := 0, slots := 0, locals := 64 } : Room) (qs_Pc g sz SA [.ref a0z, .int x1z]) (qs_Qi g (qs_F g SA sz) post) 0 0 (qs_F g SA sz) := by
  refine Met.ofW (cc := cX7_liftedBy) (maxL := 2) (ret := (some .int)) (by decide +kernel) rfl ?_
  intro p e s m args below meth c s₁ B hml hv
  obtain ⟨rfl, hsz, hG⟩ := qs_Gd.start hv
  subst hsz
  have hx := B.exec
  have hb := B.bytes
  have hr := B.returns
  have hts := atoms_spec (ws := wsX7_liftedBy) B.pre
  have hown : s.vm.findClass RX7 = some m.cls := findClass_of_methodNamed B.named
  have hlk := B.notSynchronized
  have in7 : ∀ w ∈ u_ws RX7 TX7 35, w ∈ wsX7_liftedBy := fun w h => List.mem_cons_of_mem _ (List.mem_append_right _ (h))
  have b18 : ∀ (S : qs_S) (s0 : Int32) (H : Heap) (locs : List Loc) (ls : Array Slot), wp_X7_liftedBy_b18 g.2.2.2.2.2.2.1 g.2.2.2.2.2.2.2 post S s0 → qs_Gd g (qs_F g SA s.heap.size) s S H locs → lv_has ls 2 [] → W p l e (headSpec wsX7_liftedBy ({ frames := 3, cells := 0, slots := 0, locals := 64 } : Room)).room s m (([.ref a0z, .int x1z] : List Value)).toArray below meth c H locs 0 0 (MQ below (qs_Qi g (qs_F g SA s.heap.size) post) (([.ref a0z, .int x1z] : List Value)).toArray s 0 0 (qs_F g SA s.heap.size)) (F0 m 18 ls [.int s0]) := by
    intro S s0 H locs ls h hG hl
    unfold wp_X7_liftedBy_b18 at h
    exact qe_i hx hb hr hlk hG h (Nat.le_refl _) (Nat.le_refl _) dX7_liftedBy_18
  have hl := lv_entry ([.ref a0z, .int x1z]) (n := 2) (Nat.le_of_ble_eq_true rfl)
  rw [lg_entry_eq]
  generalize (lg_sl ([.ref a0z, .int x1z]) ++ List.replicate (2 - (lg_sl ([.ref a0z, .int x1z])).length) Slot.unset).toArray = ls at hl ⊢
  have hl : lv_has ls 2 [(0, .ref a0z), (1, .int x1z)] := hl
  unfold wp_X7_liftedBy at h
  refine lv_aload_n hx hb dX7_liftedBy_0 rfl (lv_at hl 0 rfl) ?_
  refine lv_iload_n hx hb dX7_liftedBy_1 rfl (lv_at hl 1 rfl) ?_
  obtain ⟨⟨hL3, fK4⟩, h⟩ := h
  refine qc_i hG (va_runV (As := [.int x1z]) (rest := []) ⟨hx, hb, hml, hown, hts⟩ (c_X7_asksBox l g _ SA a0z x1z h) (cwV 1 hts gX7_liftedBy_X7_asksBox rfl rfl rfl (by decide +kernel) ⟨(Nat.le_of_ble_eq_true rfl), (Nat.le_of_ble_eq_true rfl)⟩) ⟨qs_Pc.blind _ _ _ _, hG.recv hL3 fK4 (by decide) rfl, hG.pre _⟩ rfl rfl hl.1 rfl (lv_room (Nat.le_of_ble_eq_true rfl)) dX7_liftedBy_2 ⟨Nat.zero_le _, Nat.zero_le _⟩) (fun v6 S5 H locs h hG => ?_)
  refine lv_if_eq (tgt := 17) hx hb dX7_liftedBy_5 (by decide) (fun c7 => ?_) (fun c7 => ?_)
  · have h := h.1 c7
    refine lv_iconst (v := (0 : Int32)) hx hb dX7_liftedBy_17 (by decide +kernel) ?_
    exact b18 S5 (0 : Int32) _ _ ls h hG (lv_sub hl [] rfl)
  · have h := h.2 c7
    refine lv_aload_n hx hb dX7_liftedBy_8 rfl (lv_at hl 0 rfl) ?_
    obtain ⟨⟨hL8, fK9⟩, h⟩ := h
    obtain ⟨q10, eq10, h⟩ := h
    refine qr_get (C := RX7) (T := TX7) (N := 35) (ci := 7) hx hb hts in7 hown hG hL8 fK9 (by decide) rfl 11 (by decide) rfl (hts (.fieldLink RX7 32 "QuayMeshModel" "lifter" "[I") (List.mem_of_getElem? (i := 1) rfl)) (fun _ h9 => h9) (v := .ref q10) (qs_rf eq10) dX7_liftedBy_9 ?_
    refine lv_iload_n hx hb dX7_liftedBy_12 rfl (lv_at hl 1 rfl) ?_
    obtain ⟨⟨hL11, fK12⟩, h⟩ := h
    obtain ⟨hi13, h⟩ := h
    refine qr_iald hx hb hG hL11 fK12 hi13 rfl dX7_liftedBy_13 ?_
    refine lv_topi (fun v14 ev14 => ?_)
    have h := h v14 ev14
    refine lv_goto (tgt := 18) hx hb dX7_liftedBy_14 (by decide) ?_
    exact b18 S5 v14 _ _ ls h hG (lv_sub hl [] rfl)
def wp_X7_bookedFor_b18 (t0 m9 : Nat) (post : Int32 → qs_S → Prop) (S : qs_S) (s0 : Int32) : Prop := post s0 S
def wp_X7_bookedFor (t0 m9 : Nat) (post : Int32 → qs_S → Prop) (SA : qs_S) (a0z : Nat) (x1z : Int32) : Prop := (a0z ∈ qs_L SA ∧ qs_K SA a0z = 7) ∧ (wp_X7_asksBox t0 m9 (fun (v6 : Int32) (S5 : qs_S) => (v6 = 0 → (wp_X7_bookedFor_b18 t0 m9 post S5 (0 : Int32))) ∧ (¬ v6 = 0 → ((a0z ∈ qs_L S5 ∧ qs_K S5 a0z = 7) ∧ (∃ q10 : Nat, qs_R S5 12 a0z = some q10 ∧ ((q10 ∈ qs_L S5 ∧ qs_K S5 q10 = 8) ∧ (vp_in x1z (qs_Z S5 q10) ∧ (∀ v14 : Int32, v14 = qs_A S5 q10 x1z.toNatClampNeg → wp_X7_bookedFor_b18 t0 m9 post S5 v14))))))) SA a0z x1z)
set_option maxHeartbeats 4000000 in
set_option maxRecDepth 100000 in
theorem c_X7_bookedFor (l : Launch) (g : qs_G) (sz : Nat) (SA : qs_S) (a0z : Nat) (x1z : Int32) {post : Int32 → qs_S → Prop} (h : wp_X7_bookedFor g.2.2.2.2.2.2.1 g.2.2.2.2.2.2.2 post SA a0z x1z) : Met l yX7_bookedFor wsX7_bookedFor ({ frames := 3, cells := 0, slots := 0, locals := 64 } : Room) (qs_Pc g sz SA [.ref a0z, .int x1z]) (qs_Qi g (qs_F g SA sz) post) 0 0 (qs_F g SA sz) := by
  refine Met.ofW (cc := cX7_bookedFor) (maxL := 2) (ret := (some .int)) (by decide +kernel) rfl ?_
  intro p e s m args below meth c s₁ B hml hv
  obtain ⟨rfl, hsz, hG⟩ := qs_Gd.start hv
  subst hsz
  have hx := B.exec
  have hb := B.bytes
  have hr := B.returns
  have hts := atoms_spec (ws := wsX7_bookedFor) B.pre
  have hown : s.vm.findClass RX7 = some m.cls := findClass_of_methodNamed B.named
  have hlk := B.notSynchronized
  have in7 : ∀ w ∈ u_ws RX7 TX7 35, w ∈ wsX7_bookedFor := fun w h => List.mem_cons_of_mem _ (List.mem_append_right _ (h))
  have b18 : ∀ (S : qs_S) (s0 : Int32) (H : Heap) (locs : List Loc) (ls : Array Slot), wp_X7_bookedFor_b18 g.2.2.2.2.2.2.1 g.2.2.2.2.2.2.2 post S s0 → qs_Gd g (qs_F g SA s.heap.size) s S H locs → lv_has ls 2 [] → W p l e (headSpec wsX7_bookedFor ({ frames := 3, cells := 0, slots := 0, locals := 64 } : Room)).room s m (([.ref a0z, .int x1z] : List Value)).toArray below meth c H locs 0 0 (MQ below (qs_Qi g (qs_F g SA s.heap.size) post) (([.ref a0z, .int x1z] : List Value)).toArray s 0 0 (qs_F g SA s.heap.size)) (F0 m 18 ls [.int s0]) := by
    intro S s0 H locs ls h hG hl
    unfold wp_X7_bookedFor_b18 at h
    exact qe_i hx hb hr hlk hG h (Nat.le_refl _) (Nat.le_refl _) dX7_bookedFor_18
  have hl := lv_entry ([.ref a0z, .int x1z]) (n := 2) (Nat.le_of_ble_eq_true rfl)
  rw [lg_entry_eq]
  generalize (lg_sl ([.ref a0z, .int x1z]) ++ List.replicate (2 - (lg_sl ([.ref a0z, .int x1z])).length) Slot.unset).toArray = ls at hl ⊢
  have hl : lv_has ls 2 [(0, .ref a0z), (1, .int x1z)] := hl
  unfold wp_X7_bookedFor at h
  refine lv_aload_n hx hb dX7_bookedFor_0 rfl (lv_at hl 0 rfl) ?_
  refine lv_iload_n hx hb dX7_bookedFor_1 rfl (lv_at hl 1 rfl) ?_
  obtain ⟨⟨hL3, fK4⟩, h⟩ := h
  refine qc_i hG (va_runV (As := [.int x1z]) (rest := []) ⟨hx, hb, hml, hown, hts⟩ (c_X7_asksBox l g _ SA a0z x1z h) (cwV 1 hts gX7_bookedFor_X7_asksBox rfl rfl rfl (by decide +kernel) ⟨(Nat.le_of_ble_eq_true rfl), (Nat.le_of_ble_eq_true rfl)⟩) ⟨qs_Pc.blind _ _ _ _, hG.recv hL3 fK4 (by decide) rfl, hG.pre _⟩ rfl rfl hl.1 rfl (lv_room (Nat.le_of_ble_eq_true rfl)) dX7_bookedFor_2 ⟨Nat.zero_le _, Nat.zero_le _⟩) (fun v6 S5 H locs h hG => ?_)
  refine lv_if_eq (tgt := 17) hx hb dX7_bookedFor_5 (by decide) (fun c7 => ?_) (fun c7 => ?_)
  · have h := h.1 c7
    refine lv_iconst (v := (0 : Int32)) hx hb dX7_bookedFor_17 (by decide +kernel) ?_
    exact b18 S5 (0 : Int32) _ _ ls h hG (lv_sub hl [] rfl)
  · have h := h.2 c7
    refine lv_aload_n hx hb dX7_bookedFor_8 rfl (lv_at hl 0 rfl) ?_
    obtain ⟨⟨hL8, fK9⟩, h⟩ := h
    obtain ⟨q10, eq10, h⟩ := h
    refine qr_get (C := RX7) (T := TX7) (N := 35) (ci := 7) hx hb hts in7 hown hG hL8 fK9 (by decide) rfl 12 (by decide) rfl (hts (.fieldLink RX7 35 "QuayMeshModel" "booked" "[I") (List.mem_of_getElem? (i := 1) rfl)) (fun _ h9 => h9) (v := .ref q10) (qs_rf eq10) dX7_bookedFor_9 ?_
    refine lv_iload_n hx hb dX7_bookedFor_12 rfl (lv_at hl 1 rfl) ?_
    obtain ⟨⟨hL11, fK12⟩, h⟩ := h
    obtain ⟨hi13, h⟩ := h
    refine qr_iald hx hb hG hL11 fK12 hi13 rfl dX7_bookedFor_13 ?_
    refine lv_topi (fun v14 ev14 => ?_)
    have h := h v14 ev14
    refine lv_goto (tgt := 18) hx hb dX7_bookedFor_14 (by decide) ?_
    exact b18 S5 v14 _ _ ls h hG (lv_sub hl [] rfl)
def wp_X7_placeOf_b33 (t0 m9 : Nat) (post : Int32 → qs_S → Prop) (S : qs_S) (s0 : Int32) : Prop := post s0 S
def wp_X7_placeOf_b13 (t0 m9 : Nat) (post : Int32 → qs_S → Prop) (S : qs_S) (a0 : Nat) (x1 : Int32) (r0 : Nat) (s1 : Int32) : Prop := (r0 ∈ qs_L S ∧ qs_K S r0 = 7) ∧ ((a0 ∈ qs_L (qs_wI S 0 r0 s1) ∧ qs_K (qs_wI S 0 r0 s1) a0 = 7) ∧ (∀ v5 : Int32, v5 = qs_I (qs_wI S 0 r0 s1) 0 a0 → (v5 ≤ 0 → (∃ q7 : Nat, qs_R (qs_wI S 0 r0 s1) 16 a0 = some q7 ∧ ((q7 ∈ qs_L (qs_wI S 0 r0 s1) ∧ qs_K (qs_wI S 0 r0 s1) q7 = 8) ∧ (vp_in x1 (qs_Z (qs_wI S 0 r0 s1) q7) ∧ (∀ v11 : Int32, v11 = qs_A (qs_wI S 0 r0 s1) q7 x1.toNatClampNeg → wp_X7_placeOf_b33 t0 m9 post (qs_wI S 0 r0 s1) v11))))) ∧ (¬ v5 ≤ 0 → (wp_X7_placeOf_b33 t0 m9 post (qs_wI S 0 r0 s1) (0 : Int32)))))
def wp_X7_placeOf (t0 m9 : Nat) (post : Int32 → qs_S → Prop) (SA : qs_S) (a0z : Nat) (x1z : Int32) : Prop := wp_X7_isCrane t0 m9 (fun (v15 : Int32) (S14 : qs_S) => (v15 = 0 → (wp_X7_placeOf_b13 t0 m9 post S14 a0z x1z a0z (1 : Int32))) ∧ (¬ v15 = 0 → (wp_X7_placeOf_b13 t0 m9 post S14 a0z x1z a0z (0 : Int32)))) SA x1z
set_option maxHeartbeats 4000000 in
set_option maxRecDepth 100000 in
theorem c_X7_placeOf (l : Launch) (g : qs_G) (sz : Nat) (SA : qs_S) (a0z : Nat) (x1z : Int32) {post : Int32 → qs_S → Prop} (h : wp_X7_placeOf g.2.2.2.2.2.2.1 g.2.2.2.2.2.2.2 post SA a0z x1z) : Met l yX7_placeOf wsX7_placeOf ({ frames := 2, cells := 0, slots := 0, locals := 42 } : Room) (qs_Pc g sz SA [.ref a0z, .int x1z]) (qs_Qi g (qs_F g SA sz) post) 0 0 (qs_F g SA sz) := by
  refine Met.ofW (cc := cX7_placeOf) (maxL := 2) (ret := (some .int)) (by decide +kernel) rfl ?_
  intro p e s m args below meth c s₁ B hml hv
  obtain ⟨rfl, hsz, hG⟩ := qs_Gd.start hv
  subst hsz
  have hx := B.exec
  have hb := B.bytes
  have hr := B.returns
  have hts := atoms_spec (ws := wsX7_placeOf) B.pre
  have hown : s.vm.findClass RX7 = some m.cls := findClass_of_methodNamed B.named
  have hlk := B.notSynchronized
  have in7 : ∀ w ∈ u_ws RX7 TX7 35, w ∈ wsX7_placeOf := fun w h => List.mem_cons_of_mem _ (List.mem_append_right _ (h))
  have b33 : ∀ (S : qs_S) (s0 : Int32) (H : Heap) (locs : List Loc) (ls : Array Slot), wp_X7_placeOf_b33 g.2.2.2.2.2.2.1 g.2.2.2.2.2.2.2 post S s0 → qs_Gd g (qs_F g SA s.heap.size) s S H locs → lv_has ls 2 [] → W p l e (headSpec wsX7_placeOf ({ frames := 2, cells := 0, slots := 0, locals := 42 } : Room)).room s m (([.ref a0z, .int x1z] : List Value)).toArray below meth c H locs 0 0 (MQ below (qs_Qi g (qs_F g SA s.heap.size) post) (([.ref a0z, .int x1z] : List Value)).toArray s 0 0 (qs_F g SA s.heap.size)) (F0 m 33 ls [.int s0]) := by
    intro S s0 H locs ls h hG hl
    unfold wp_X7_placeOf_b33 at h
    exact qe_i hx hb hr hlk hG h (Nat.le_refl _) (Nat.le_refl _) dX7_placeOf_33
  have b13 : ∀ (S : qs_S) (a0 : Nat) (x1 : Int32) (r0 : Nat) (s1 : Int32) (H : Heap) (locs : List Loc) (ls : Array Slot), wp_X7_placeOf_b13 g.2.2.2.2.2.2.1 g.2.2.2.2.2.2.2 post S a0 x1 r0 s1 → qs_Gd g (qs_F g SA s.heap.size) s S H locs → lv_has ls 2 [(0, .ref a0), (1, .int x1)] → W p l e (headSpec wsX7_placeOf ({ frames := 2, cells := 0, slots := 0, locals := 42 } : Room)).room s m (([.ref a0z, .int x1z] : List Value)).toArray below meth c H locs 0 0 (MQ below (qs_Qi g (qs_F g SA s.heap.size) post) (([.ref a0z, .int x1z] : List Value)).toArray s 0 0 (qs_F g SA s.heap.size)) (F0 m 13 ls [.int s1, .ref r0]) := by
    intro S a0 x1 r0 s1 H locs ls h hG hl
    unfold wp_X7_placeOf_b13 at h
    obtain ⟨⟨hL1, fK2⟩, h⟩ := h
    refine qr_putI (C := RX7) (T := TX7) (N := 35) (ci := 7) hx hb hts in7 tyX7 tyX7_ok nmX7 hown hG hL1 fK2 (by decide) rfl 0 (by decide) rfl (hts (.fieldLink RX7 95 "QuayMeshModel" "thrown" "I") (List.mem_of_getElem? (i := 1) rfl)) (fun _ h9 => h9) rfl (x := s1) (tyX7_ok 0 (by decide)) rfl rfl dX7_placeOf_13 (fun H locs hG => ?_)
    refine lv_aload_n hx hb dX7_placeOf_16 rfl (lv_at hl 0 rfl) ?_
    obtain ⟨⟨hL3, fK4⟩, h⟩ := h
    refine qr_get (C := RX7) (T := TX7) (N := 35) (ci := 7) hx hb hts in7 hown hG hL3 fK4 (by decide) rfl 0 (by decide) rfl (hts (.fieldLink RX7 95 "QuayMeshModel" "thrown" "I") (List.mem_of_getElem? (i := 1) rfl)) (fun _ h9 => h9) (v := .int (qs_I (qs_wI S 0 r0 s1) 0 a0)) rfl dX7_placeOf_17 ?_
    refine lv_topi (fun v5 ev5 => ?_)
    have h := h v5 ev5
    refine lv_if_le (tgt := 27) hx hb dX7_placeOf_20 (by decide) (fun c6 => ?_) (fun c6 => ?_)
    · have h := h.1 c6
      refine lv_aload_n hx hb dX7_placeOf_27 rfl (lv_at hl 0 rfl) ?_
      obtain ⟨q7, eq7, h⟩ := h
      refine qr_get (C := RX7) (T := TX7) (N := 35) (ci := 7) hx hb hts in7 hown hG hL3 fK4 (by decide) rfl 16 (by decide) rfl (hts (.fieldLink RX7 47 "QuayMeshModel" "stands" "[I") (List.mem_of_getElem? (i := 2) rfl)) (fun _ h9 => h9) (v := .ref q7) (qs_rf eq7) dX7_placeOf_28 ?_
      refine lv_iload_n hx hb dX7_placeOf_31 rfl (lv_at hl 1 rfl) ?_
      obtain ⟨⟨hL8, fK9⟩, h⟩ := h
      obtain ⟨hi10, h⟩ := h
      refine qr_iald hx hb hG hL8 fK9 hi10 rfl dX7_placeOf_32 ?_
      refine lv_topi (fun v11 ev11 => ?_)
      have h := h v11 ev11
      exact b33 (qs_wI S 0 r0 s1) v11 _ _ ls h hG (lv_sub hl [] rfl)
    · have h := h.2 c6
      refine lv_iconst (v := (0 : Int32)) hx hb dX7_placeOf_23 (by decide +kernel) ?_
      refine lv_goto (tgt := 33) hx hb dX7_placeOf_24 (by decide) ?_
      exact b33 (qs_wI S 0 r0 s1) (0 : Int32) _ _ ls h hG (lv_sub hl [] rfl)
  have hl := lv_entry ([.ref a0z, .int x1z]) (n := 2) (Nat.le_of_ble_eq_true rfl)
  rw [lg_entry_eq]
  generalize (lg_sl ([.ref a0z, .int x1z]) ++ List.replicate (2 - (lg_sl ([.ref a0z, .int x1z])).length) Slot.unset).toArray = ls at hl ⊢
  have hl : lv_has ls 2 [(0, .ref a0z), (1, .int x1z)] := hl
  unfold wp_X7_placeOf at h
  refine lv_aload_n hx hb dX7_placeOf_0 rfl (lv_at hl 0 rfl) ?_
  refine lv_iload_n hx hb dX7_placeOf_1 rfl (lv_at hl 1 rfl) ?_
  refine qc_i hG (va_runS (As := [.int x1z]) (rest := [.ref a0z]) ⟨hx, hb, hml, hown, hts⟩ (c_X7_isCrane l g _ SA x1z h) (va_cwS 1 hts gX7_placeOf_X7_isCrane rfl rfl rfl (by decide +kernel) ⟨(Nat.le_of_ble_eq_true rfl), (Nat.le_of_ble_eq_true rfl)⟩) ⟨qs_Pc.blind _ _ _ _, hG.pre _⟩ rfl rfl hl.1 rfl (lv_room (Nat.le_of_ble_eq_true rfl)) dX7_placeOf_2 ⟨Nat.zero_le _, Nat.zero_le _⟩) (fun v15 S14 H locs h hG => ?_)
  refine lv_if_eq (tgt := 12) hx hb dX7_placeOf_5 (by decide) (fun c16 => ?_) (fun c16 => ?_)
  · have h := h.1 c16
    refine lv_iconst (v := (1 : Int32)) hx hb dX7_placeOf_12 (by decide +kernel) ?_
    exact b13 S14 a0z x1z a0z (1 : Int32) _ _ ls h hG (lv_sub hl [0, 1] rfl)
  · have h := h.2 c16
    refine lv_iconst (v := (0 : Int32)) hx hb dX7_placeOf_8 (by decide +kernel) ?_
    refine lv_goto (tgt := 13) hx hb dX7_placeOf_9 (by decide) ?_
    exact b13 S14 a0z x1z a0z (0 : Int32) _ _ ls h hG (lv_sub hl [0, 1] rfl)
def wp_X7_height_b35 (t0 m9 : Nat) (post : Int32 → qs_S → Prop) (S : qs_S) (s0 : Int32) : Prop := post s0 S
def wp_X7_height_b15 (t0 m9 : Nat) (post : Int32 → qs_S → Prop) (S : qs_S) (a0 : Nat) (x1 : Int32) (r0 : Nat) (s1 : Int32) : Prop := (r0 ∈ qs_L S ∧ qs_K S r0 = 7) ∧ ((a0 ∈ qs_L (qs_wI S 0 r0 s1) ∧ qs_K (qs_wI S 0 r0 s1) a0 = 7) ∧ (∀ v5 : Int32, v5 = qs_I (qs_wI S 0 r0 s1) 0 a0 → (v5 ≤ 0 → (∃ q7 : Nat, qs_R (qs_wI S 0 r0 s1) 14 a0 = some q7 ∧ ((q7 ∈ qs_L (qs_wI S 0 r0 s1) ∧ qs_K (qs_wI S 0 r0 s1) q7 = 8) ∧ (vp_in x1 (qs_Z (qs_wI S 0 r0 s1) q7) ∧ (∀ v11 : Int32, v11 = qs_A (qs_wI S 0 r0 s1) q7 x1.toNatClampNeg → wp_X7_height_b35 t0 m9 post (qs_wI S 0 r0 s1) v11))))) ∧ (¬ v5 ≤ 0 → (wp_X7_height_b35 t0 m9 post (qs_wI S 0 r0 s1) (0 : Int32)))))
def wp_X7_height (t0 m9 : Nat) (post : Int32 → qs_S → Prop) (SA : qs_S) (a0z : Nat) (x1z : Int32) : Prop := wp_X7_in t0 m9 (fun (v15 : Int32) (S14 : qs_S) => (v15 = 0 → (wp_X7_height_b15 t0 m9 post S14 a0z x1z a0z (1 : Int32))) ∧ (¬ v15 = 0 → (wp_X7_height_b15 t0 m9 post S14 a0z x1z a0z (0 : Int32)))) SA x1z (0 : Int32) (5 : Int32)
set_option maxHeartbeats 4000000 in
set_option maxRecDepth 100000 in
theorem c_X7_height (l : Launch) (g : qs_G) (sz : Nat) (SA : qs_S) (a0z : Nat) (x1z : Int32) {post : Int32 → qs_S → Prop} (h : wp_X7_height g.2.2.2.2.2.2.1 g.2.2.2.2.2.2.2 post SA a0z x1z) : Met l yX7_height wsX7_height ({ frames := 1, cells := 0, slots := 0, locals := 22 } : Room) (qs_Pc g sz SA [.ref a0z, .int x1z]) (qs_Qi g (qs_F g SA sz) post) 0 0 (qs_F g SA sz) := by
  refine Met.ofW (cc := cX7_height) (maxL := 2) (ret := (some .int)) (by decide +kernel) rfl ?_
  intro p e s m args below meth c s₁ B hml hv
  obtain ⟨rfl, hsz, hG⟩ := qs_Gd.start hv
  subst hsz
  have hx := B.exec
  have hb := B.bytes
  have hr := B.returns
  have hts := atoms_spec (ws := wsX7_height) B.pre
  have hown : s.vm.findClass RX7 = some m.cls := findClass_of_methodNamed B.named
  have hlk := B.notSynchronized
  have in7 : ∀ w ∈ u_ws RX7 TX7 35, w ∈ wsX7_height := fun w h => List.mem_cons_of_mem _ (List.mem_append_right _ (h))
  have b35 : ∀ (S : qs_S) (s0 : Int32) (H : Heap) (locs : List Loc) (ls : Array Slot), wp_X7_height_b35 g.2.2.2.2.2.2.1 g.2.2.2.2.2.2.2 post S s0 → qs_Gd g (qs_F g SA s.heap.size) s S H locs → lv_has ls 2 [] → W p l e (headSpec wsX7_height ({ frames := 1, cells := 0, slots := 0, locals := 22 } : Room)).room s m (([.ref a0z, .int x1z] : List Value)).toArray below meth c H locs 0 0 (MQ below (qs_Qi g (qs_F g SA s.heap.size) post) (([.ref a0z, .int x1z] : List Value)).toArray s 0 0 (qs_F g SA s.heap.size)) (F0 m 35 ls [.int s0]) := by
    intro S s0 H locs ls h hG hl
    unfold wp_X7_height_b35 at h
    exact qe_i hx hb hr hlk hG h (Nat.le_refl _) (Nat.le_refl _) dX7_height_35
  have b15 : ∀ (S : qs_S) (a0 : Nat) (x1 : Int32) (r0 : Nat) (s1 : Int32) (H : Heap) (locs : List Loc) (ls : Array Slot), wp_X7_height_b15 g.2.2.2.2.2.2.1 g.2.2.2.2.2.2.2 post S a0 x1 r0 s1 → qs_Gd g (qs_F g SA s.heap.size) s S H locs → lv_has ls 2 [(0, .ref a0), (1, .int x1)] → W p l e (headSpec wsX7_height ({ frames := 1, cells := 0, slots := 0, locals := 22 } : Room)).room s m (([.ref a0z, .int x1z] : List Value)).toArray below meth c H locs 0 0 (MQ below (qs_Qi g (qs_F g SA s.heap.size) post) (([.ref a0z, .int x1z] : List Value)).toArray s 0 0 (qs_F g SA s.heap.size)) (F0 m 15 ls [.int s1, .ref r0]) := by
    intro S a0 x1 r0 s1 H locs ls h hG hl
    unfold wp_X7_height_b15 at h
    obtain ⟨⟨hL1, fK2⟩, h⟩ := h
    refine qr_putI (C := RX7) (T := TX7) (N := 35) (ci := 7) hx hb hts in7 tyX7 tyX7_ok nmX7 hown hG hL1 fK2 (by decide) rfl 0 (by decide) rfl (hts (.fieldLink RX7 95 "QuayMeshModel" "thrown" "I") (List.mem_of_getElem? (i := 1) rfl)) (fun _ h9 => h9) rfl (x := s1) (tyX7_ok 0 (by decide)) rfl rfl dX7_height_15 (fun H locs hG => ?_)
    refine lv_aload_n hx hb dX7_height_18 rfl (lv_at hl 0 rfl) ?_
    obtain ⟨⟨hL3, fK4⟩, h⟩ := h
    refine qr_get (C := RX7) (T := TX7) (N := 35) (ci := 7) hx hb hts in7 hown hG hL3 fK4 (by decide) rfl 0 (by decide) rfl (hts (.fieldLink RX7 95 "QuayMeshModel" "thrown" "I") (List.mem_of_getElem? (i := 1) rfl)) (fun _ h9 => h9) (v := .int (qs_I (qs_wI S 0 r0 s1) 0 a0)) rfl dX7_height_19 ?_
    refine lv_topi (fun v5 ev5 => ?_)
    have h := h v5 ev5
    refine lv_if_le (tgt := 29) hx hb dX7_height_22 (by decide) (fun c6 => ?_) (fun c6 => ?_)
    · have h := h.1 c6
      refine lv_aload_n hx hb dX7_height_29 rfl (lv_at hl 0 rfl) ?_
      obtain ⟨q7, eq7, h⟩ := h
      refine qr_get (C := RX7) (T := TX7) (N := 35) (ci := 7) hx hb hts in7 hown hG hL3 fK4 (by decide) rfl 14 (by decide) rfl (hts (.fieldLink RX7 41 "QuayMeshModel" "height" "[I") (List.mem_of_getElem? (i := 2) rfl)) (fun _ h9 => h9) (v := .ref q7) (qs_rf eq7) dX7_height_30 ?_
      refine lv_iload_n hx hb dX7_height_33 rfl (lv_at hl 1 rfl) ?_
      obtain ⟨⟨hL8, fK9⟩, h⟩ := h
      obtain ⟨hi10, h⟩ := h
      refine qr_iald hx hb hG hL8 fK9 hi10 rfl dX7_height_34 ?_
      refine lv_topi (fun v11 ev11 => ?_)
      have h := h v11 ev11
      exact b35 (qs_wI S 0 r0 s1) v11 _ _ ls h hG (lv_sub hl [] rfl)
    · have h := h.2 c6
      refine lv_iconst (v := (0 : Int32)) hx hb dX7_height_25 (by decide +kernel) ?_
      refine lv_goto (tgt := 35) hx hb dX7_height_26 (by decide) ?_
      exact b35 (qs_wI S 0 r0 s1) (0 : Int32) _ _ ls h hG (lv_sub hl [] rfl)
  have hl := lv_entry ([.ref a0z, .int x1z]) (n := 2) (Nat.le_of_ble_eq_true rfl)
  rw [lg_entry_eq]
  generalize (lg_sl ([.ref a0z, .int x1z]) ++ List.replicate (2 - (lg_sl ([.ref a0z, .int x1z])).length) Slot.unset).toArray = ls at hl ⊢
  have hl : lv_has ls 2 [(0, .ref a0z), (1, .int x1z)] := hl
  unfold wp_X7_height at h
  refine lv_aload_n hx hb dX7_height_0 rfl (lv_at hl 0 rfl) ?_
  refine lv_iload_n hx hb dX7_height_1 rfl (lv_at hl 1 rfl) ?_
  refine lv_iconst (v := (0 : Int32)) hx hb dX7_height_2 (by decide +kernel) ?_
  refine lv_iconst (v := (5 : Int32)) hx hb dX7_height_3 (by decide +kernel) ?_
  refine qc_i hG (va_runS (As := [.int x1z, .int (0 : Int32), .int (5 : Int32)]) (rest := [.ref a0z]) ⟨hx, hb, hml, hown, hts⟩ (c_X7_in l g _ SA x1z (0 : Int32) (5 : Int32) h) (va_cwS 3 hts gX7_height_X7_in rfl rfl rfl (by decide +kernel) ⟨(Nat.le_of_ble_eq_true rfl), (Nat.le_of_ble_eq_true rfl)⟩) ⟨qs_Pc.blind _ _ _ _, hG.pre _⟩ rfl rfl hl.1 rfl (lv_room (Nat.le_of_ble_eq_true rfl)) dX7_height_4 ⟨Nat.zero_le _, Nat.zero_le _⟩) (fun v15 S14 H locs h hG => ?_)
  refine lv_if_eq (tgt := 14) hx hb dX7_height_7 (by decide) (fun c16 => ?_) (fun c16 => ?_)
  · have h := h.1 c16
    refine lv_iconst (v := (1 : Int32)) hx hb dX7_height_14 (by decide +kernel) ?_
    exact b15 S14 a0z x1z a0z (1 : Int32) _ _ ls h hG (lv_sub hl [0, 1] rfl)
  · have h := h.2 c16
    refine lv_iconst (v := (0 : Int32)) hx hb dX7_height_10 (by decide +kernel) ?_
    refine lv_goto (tgt := 15) hx hb dX7_height_11 (by decide) ?_
    exact b15 S14 a0z x1z a0z (0 : Int32) _ _ ls h hG (lv_sub hl [0, 1] rfl)
def wp_X7_queue_b33 (t0 m9 : Nat) (post : Int32 → qs_S → Prop) (S : qs_S) (s0 : Int32) : Prop := post s0 S
def wp_X7_queue_b13 (t0 m9 : Nat) (post : Int32 → qs_S → Prop) (S : qs_S) (a0 : Nat) (x1 : Int32) (r0 : Nat) (s1 : Int32) : Prop := (r0 ∈ qs_L S ∧ qs_K S r0 = 7) ∧ ((a0 ∈ qs_L (qs_wI S 0 r0 s1) ∧ qs_K (qs_wI S 0 r0 s1) a0 = 7) ∧ (∀ v5 : Int32, v5 = qs_I (qs_wI S 0 r0 s1) 0 a0 → (v5 ≤ 0 → (∃ q7 : Nat, qs_R (qs_wI S 0 r0 s1) 29 a0 = some q7 ∧ ((q7 ∈ qs_L (qs_wI S 0 r0 s1) ∧ qs_K (qs_wI S 0 r0 s1) q7 = 8) ∧ (vp_in x1 (qs_Z (qs_wI S 0 r0 s1) q7) ∧ (∀ v11 : Int32, v11 = qs_A (qs_wI S 0 r0 s1) q7 x1.toNatClampNeg → wp_X7_queue_b33 t0 m9 post (qs_wI S 0 r0 s1) v11))))) ∧ (¬ v5 ≤ 0 → (wp_X7_queue_b33 t0 m9 post (qs_wI S 0 r0 s1) (0 : Int32)))))
def wp_X7_queue (t0 m9 : Nat) (post : Int32 → qs_S → Prop) (SA : qs_S) (a0z : Nat) (x1z : Int32) : Prop := wp_X7_isWorker t0 m9 (fun (v15 : Int32) (S14 : qs_S) => (v15 = 0 → (wp_X7_queue_b13 t0 m9 post S14 a0z x1z a0z (1 : Int32))) ∧ (¬ v15 = 0 → (wp_X7_queue_b13 t0 m9 post S14 a0z x1z a0z (0 : Int32)))) SA x1z
set_option maxHeartbeats 4000000 in
set_option maxRecDepth 100000 in
theorem c_X7_queue (l : Launch) (g : qs_G) (sz : Nat) (SA : qs_S) (a0z : Nat) (x1z : Int32) {post : Int32 → qs_S → Prop} (h : wp_X7_queue g.2.2.2.2.2.2.1 g.2.2.2.2.2.2.2 post SA a0z x1z) : Met l yX7_queue wsX7_queue ({ frames := 2, cells := 0, slots := 0, locals := 42 } : Room) (qs_Pc g sz SA [.ref a0z, .int x1z]) (qs_Qi g (qs_F g SA sz) post) 0 0 (qs_F g SA sz) := by
  refine Met.ofW (cc := cX7_queue) (maxL := 2) (ret := (some .int)) (by decide +kernel) rfl ?_
  intro p e s m args below meth c s₁ B hml hv
  obtain ⟨rfl, hsz, hG⟩ := qs_Gd.start hv
  subst hsz
  have hx := B.exec
  have hb := B.bytes
  have hr := B.returns
  have hts := atoms_spec (ws := wsX7_queue) B.pre
  have hown : s.vm.findClass RX7 = some m.cls := findClass_of_methodNamed B.named
  have hlk := B.notSynchronized
  have in7 : ∀ w ∈ u_ws RX7 TX7 35, w ∈ wsX7_queue := fun w h => List.mem_cons_of_mem _ (List.mem_append_right _ (h))
  have b33 : ∀ (S : qs_S) (s0 : Int32) (H : Heap) (locs : List Loc) (ls : Array Slot), wp_X7_queue_b33 g.2.2.2.2.2.2.1 g.2.2.2.2.2.2.2 post S s0 → qs_Gd g (qs_F g SA s.heap.size) s S H locs → lv_has ls 2 [] → W p l e (headSpec wsX7_queue ({ frames := 2, cells := 0, slots := 0, locals := 42 } : Room)).room s m (([.ref a0z, .int x1z] : List Value)).toArray below meth c H locs 0 0 (MQ below (qs_Qi g (qs_F g SA s.heap.size) post) (([.ref a0z, .int x1z] : List Value)).toArray s 0 0 (qs_F g SA s.heap.size)) (F0 m 33 ls [.int s0]) := by
    intro S s0 H locs ls h hG hl
    unfold wp_X7_queue_b33 at h
    exact qe_i hx hb hr hlk hG h (Nat.le_refl _) (Nat.le_refl _) dX7_queue_33
  have b13 : ∀ (S : qs_S) (a0 : Nat) (x1 : Int32) (r0 : Nat) (s1 : Int32) (H : Heap) (locs : List Loc) (ls : Array Slot), wp_X7_queue_b13 g.2.2.2.2.2.2.1 g.2.2.2.2.2.2.2 post S a0 x1 r0 s1 → qs_Gd g (qs_F g SA s.heap.size) s S H locs → lv_has ls 2 [(0, .ref a0), (1, .int x1)] → W p l e (headSpec wsX7_queue ({ frames := 2, cells := 0, slots := 0, locals := 42 } : Room)).room s m (([.ref a0z, .int x1z] : List Value)).toArray below meth c H locs 0 0 (MQ below (qs_Qi g (qs_F g SA s.heap.size) post) (([.ref a0z, .int x1z] : List Value)).toArray s 0 0 (qs_F g SA s.heap.size)) (F0 m 13 ls [.int s1, .ref r0]) := by
    intro S a0 x1 r0 s1 H locs ls h hG hl
    unfold wp_X7_queue_b13 at h
    obtain ⟨⟨hL1, fK2⟩, h⟩ := h
    refine qr_putI (C := RX7) (T := TX7) (N := 35) (ci := 7) hx hb hts in7 tyX7 tyX7_ok nmX7 hown hG hL1 fK2 (by decide) rfl 0 (by decide) rfl (hts (.fieldLink RX7 95 "QuayMeshModel" "thrown" "I") (List.mem_of_getElem? (i := 1) rfl)) (fun _ h9 => h9) rfl (x := s1) (tyX7_ok 0 (by decide)) rfl rfl dX7_queue_13 (fun H locs hG => ?_)
    refine lv_aload_n hx hb dX7_queue_16 rfl (lv_at hl 0 rfl) ?_
    obtain ⟨⟨hL3, fK4⟩, h⟩ := h
    refine qr_get (C := RX7) (T := TX7) (N := 35) (ci := 7) hx hb hts in7 hown hG hL3 fK4 (by decide) rfl 0 (by decide) rfl (hts (.fieldLink RX7 95 "QuayMeshModel" "thrown" "I") (List.mem_of_getElem? (i := 1) rfl)) (fun _ h9 => h9) (v := .int (qs_I (qs_wI S 0 r0 s1) 0 a0)) rfl dX7_queue_17 ?_
    refine lv_topi (fun v5 ev5 => ?_)
    have h := h v5 ev5
    refine lv_if_le (tgt := 27) hx hb dX7_queue_20 (by decide) (fun c6 => ?_) (fun c6 => ?_)
    · have h := h.1 c6
      refine lv_aload_n hx hb dX7_queue_27 rfl (lv_at hl 0 rfl) ?_
      obtain ⟨q7, eq7, h⟩ := h
      refine qr_get (C := RX7) (T := TX7) (N := 35) (ci := 7) hx hb hts in7 hown hG hL3 fK4 (by decide) rfl 29 (by decide) rfl (hts (.fieldLink RX7 77 "QuayMeshModel" "many" "[I") (List.mem_of_getElem? (i := 2) rfl)) (fun _ h9 => h9) (v := .ref q7) (qs_rf eq7) dX7_queue_28 ?_
      refine lv_iload_n hx hb dX7_queue_31 rfl (lv_at hl 1 rfl) ?_
      obtain ⟨⟨hL8, fK9⟩, h⟩ := h
      obtain ⟨hi10, h⟩ := h
      refine qr_iald hx hb hG hL8 fK9 hi10 rfl dX7_queue_32 ?_
      refine lv_topi (fun v11 ev11 => ?_)
      have h := h v11 ev11
      exact b33 (qs_wI S 0 r0 s1) v11 _ _ ls h hG (lv_sub hl [] rfl)
    · have h := h.2 c6
      refine lv_iconst (v := (0 : Int32)) hx hb dX7_queue_23 (by decide +kernel) ?_
      refine lv_goto (tgt := 33) hx hb dX7_queue_24 (by decide) ?_
      exact b33 (qs_wI S 0 r0 s1) (0 : Int32) _ _ ls h hG (lv_sub hl [] rfl)
  have hl := lv_entry ([.ref a0z, .int x1z]) (n := 2) (Nat.le_of_ble_eq_true rfl)
  rw [lg_entry_eq]
  generalize (lg_sl ([.ref a0z, .int x1z]) ++ List.replicate (2 - (lg_sl ([.ref a0z, .int x1z])).length) Slot.unset).toArray = ls at hl ⊢
  have hl : lv_has ls 2 [(0, .ref a0z), (1, .int x1z)] := hl
  unfold wp_X7_queue at h
  refine lv_aload_n hx hb dX7_queue_0 rfl (lv_at hl 0 rfl) ?_
  refine lv_iload_n hx hb dX7_queue_1 rfl (lv_at hl 1 rfl) ?_
  refine qc_i hG (va_runS (As := [.int x1z]) (rest := [.ref a0z]) ⟨hx, hb, hml, hown, hts⟩ (c_X7_isWorker l g _ SA x1z h) (va_cwS 1 hts gX7_queue_X7_isWorker rfl rfl rfl (by decide +kernel) ⟨(Nat.le_of_ble_eq_true rfl), (Nat.le_of_ble_eq_true rfl)⟩) ⟨qs_Pc.blind _ _ _ _, hG.pre _⟩ rfl rfl hl.1 rfl (lv_room (Nat.le_of_ble_eq_true rfl)) dX7_queue_2 ⟨Nat.zero_le _, Nat.zero_le _⟩) (fun v15 S14 H locs h hG => ?_)
  refine lv_if_eq (tgt := 12) hx hb dX7_queue_5 (by decide) (fun c16 => ?_) (fun c16 => ?_)
  · have h := h.1 c16
    refine lv_iconst (v := (1 : Int32)) hx hb dX7_queue_12 (by decide +kernel) ?_
    exact b13 S14 a0z x1z a0z (1 : Int32) _ _ ls h hG (lv_sub hl [0, 1] rfl)
  · have h := h.2 c16
    refine lv_iconst (v := (0 : Int32)) hx hb dX7_queue_8 (by decide +kernel) ?_
    refine lv_goto (tgt := 13) hx hb dX7_queue_9 (by decide) ?_
    exact b13 S14 a0z x1z a0z (0 : Int32) _ _ ls h hG (lv_sub hl [0, 1] rfl)
def wp_X7_queued_b54 (t0 m9 : Nat) (post : Int32 → qs_S → Prop) (S : qs_S) (s0 : Int32) : Prop := post s0 S
def wp_X7_queued_b29 (t0 m9 : Nat) (post : Int32 → qs_S → Prop) (S : qs_S) (a0 : Nat) (x1 : Int32) (x2 : Int32) (r0 : Nat) (s1 : Int32) : Prop := (r0 ∈ qs_L S ∧ qs_K S r0 = 7) ∧ ((a0 ∈ qs_L (qs_wI S 0 r0 s1) ∧ qs_K (qs_wI S 0 r0 s1) a0 = 7) ∧ (∀ v5 : Int32, v5 = qs_I (qs_wI S 0 r0 s1) 0 a0 → (v5 ≤ 0 → (∃ q7 : Nat, qs_R (qs_wI S 0 r0 s1) 30 a0 = some q7 ∧ (∀ v8 : Int32, v8 = (80 : Int32) * x1 → ∀ v9 : Int32, v9 = v8 + x2 → (q7 ∈ qs_L (qs_wI S 0 r0 s1) ∧ qs_K (qs_wI S 0 r0 s1) q7 = 8) ∧ (vp_in v9 (qs_Z (qs_wI S 0 r0 s1) q7) ∧ (∀ v13 : Int32, v13 = qs_A (qs_wI S 0 r0 s1) q7 v9.toNatClampNeg → wp_X7_queued_b54 t0 m9 post (qs_wI S 0 r0 s1) v13))))) ∧ (¬ v5 ≤ 0 → (wp_X7_queued_b54 t0 m9 post (qs_wI S 0 r0 s1) (0 : Int32)))))
def wp_X7_queued_b28 (t0 m9 : Nat) (post : Int32 → qs_S → Prop) (S : qs_S) (a0 : Nat) (x1 : Int32) (x2 : Int32) (r0 : Nat) : Prop := wp_X7_queued_b29 t0 m9 post S a0 x1 x2 r0 (1 : Int32)
def wp_X7_queued (t0 m9 : Nat) (post : Int32 → qs_S → Prop) (SA : qs_S) (a0z : Nat) (x1z : Int32) (x2z : Int32) : Prop := wp_X7_isWorker t0 m9 (fun (v17 : Int32) (S16 : qs_S) => (v17 = 0 → (wp_X7_queued_b28 t0 m9 post S16 a0z x1z x2z a0z)) ∧ (¬ v17 = 0 → ((a0z ∈ qs_L S16 ∧ qs_K S16 a0z = 7) ∧ (∃ q21 : Nat, qs_R S16 29 a0z = some q21 ∧ ((q21 ∈ qs_L S16 ∧ qs_K S16 q21 = 8) ∧ (vp_in x1z (qs_Z S16 q21) ∧ (∀ v25 : Int32, v25 = qs_A S16 q21 x1z.toNatClampNeg → ∀ v26 : Int32, v26 = v25 - (1 : Int32) → wp_X7_in t0 m9 (fun (v30 : Int32) (S29 : qs_S) => (v30 = 0 → (wp_X7_queued_b28 t0 m9 post S29 a0z x1z x2z a0z)) ∧ (¬ v30 = 0 → (wp_X7_queued_b29 t0 m9 post S29 a0z x1z x2z a0z (0 : Int32)))) S16 x2z (0 : Int32) v26))))))) SA x1z
set_option maxHeartbeats 4000000 in
set_option maxRecDepth 100000 in
theorem c_X7_queued (l : Launch) (g : qs_G) (sz : Nat) (SA : qs_S) (a0z : Nat) (x1z : Int32) (x2z : Int32) {post : Int32 → qs_S → Prop} (h : wp_X7_queued g.2.2.2.2.2.2.1 g.2.2.2.2.2.2.2 post SA a0z x1z x2z) : Met l yX7_queued wsX7_queued ({ frames := 2, cells := 0, slots := 0, locals := 42 } : Room) (qs_Pc g sz SA [.ref a0z, .int x1z, .int x2z]) (qs_Qi g (qs_F g SA sz) post) 0 0 (qs_F g SA sz) := by
  refine Met.ofW (cc := cX7_queued) (maxL := 3) (ret := (some .int)) (by decide +kernel) rfl ?_
  intro p e s m args below meth c s₁ B hml hv
  obtain ⟨rfl, hsz, hG⟩ := qs_Gd.start hv
  subst hsz
  have hx := B.exec
  have hb := B.bytes
  have hr := B.returns
  have hts := atoms_spec (ws := wsX7_queued) B.pre
  have hown : s.vm.findClass RX7 = some m.cls := findClass_of_methodNamed B.named
  have hlk := B.notSynchronized
  have in7 : ∀ w ∈ u_ws RX7 TX7 35, w ∈ wsX7_queued := fun w h => List.mem_cons_of_mem _ (List.mem_append_right _ (h))
  have b54 : ∀ (S : qs_S) (s0 : Int32) (H : Heap) (locs : List Loc) (ls : Array Slot), wp_X7_queued_b54 g.2.2.2.2.2.2.1 g.2.2.2.2.2.2.2 post S s0 → qs_Gd g (qs_F g SA s.heap.size) s S H locs → lv_has ls 3 [] → W p l e (headSpec wsX7_queued ({ frames := 2, cells := 0, slots := 0, locals := 42 } : Room)).room s m (([.ref a0z, .int x1z, .int x2z] : List Value)).toArray below meth c H locs 0 0 (MQ below (qs_Qi g (qs_F g SA s.heap.size) post) (([.ref a0z, .int x1z, .int x2z] : List Value)).toArray s 0 0 (qs_F g SA s.heap.size)) (F0 m 54 ls [.int s0]) := by
    intro S s0 H locs ls h hG hl
    unfold wp_X7_queued_b54 at h
    exact qe_i hx hb hr hlk hG h (Nat.le_refl _) (Nat.le_refl _) dX7_queued_54
  have b29 : ∀ (S : qs_S) (a0 : Nat) (x1 : Int32) (x2 : Int32) (r0 : Nat) (s1 : Int32) (H : Heap) (locs : List Loc) (ls : Array Slot), wp_X7_queued_b29 g.2.2.2.2.2.2.1 g.2.2.2.2.2.2.2 post S a0 x1 x2 r0 s1 → qs_Gd g (qs_F g SA s.heap.size) s S H locs → lv_has ls 3 [(0, .ref a0), (1, .int x1), (2, .int x2)] → W p l e (headSpec wsX7_queued ({ frames := 2, cells := 0, slots := 0, locals := 42 } : Room)).room s m (([.ref a0z, .int x1z, .int x2z] : List Value)).toArray below meth c H locs 0 0 (MQ below (qs_Qi g (qs_F g SA s.heap.size) post) (([.ref a0z, .int x1z, .int x2z] : List Value)).toArray s 0 0 (qs_F g SA s.heap.size)) (F0 m 29 ls [.int s1, .ref r0]) := by
    intro S a0 x1 x2 r0 s1 H locs ls h hG hl
    unfold wp_X7_queued_b29 at h
    obtain ⟨⟨hL1, fK2⟩, h⟩ := h
    refine qr_putI (C := RX7) (T := TX7) (N := 35) (ci := 7) hx hb hts in7 tyX7 tyX7_ok nmX7 hown hG hL1 fK2 (by decide) rfl 0 (by decide) rfl (hts (.fieldLink RX7 95 "QuayMeshModel" "thrown" "I") (List.mem_of_getElem? (i := 2) rfl)) (fun _ h9 => h9) rfl (x := s1) (tyX7_ok 0 (by decide)) rfl rfl dX7_queued_29 (fun H locs hG => ?_)
    refine lv_aload_n hx hb dX7_queued_32 rfl (lv_at hl 0 rfl) ?_
    obtain ⟨⟨hL3, fK4⟩, h⟩ := h
    refine qr_get (C := RX7) (T := TX7) (N := 35) (ci := 7) hx hb hts in7 hown hG hL3 fK4 (by decide) rfl 0 (by decide) rfl (hts (.fieldLink RX7 95 "QuayMeshModel" "thrown" "I") (List.mem_of_getElem? (i := 2) rfl)) (fun _ h9 => h9) (v := .int (qs_I (qs_wI S 0 r0 s1) 0 a0)) rfl dX7_queued_33 ?_
    refine lv_topi (fun v5 ev5 => ?_)
    have h := h v5 ev5
    refine lv_if_le (tgt := 43) hx hb dX7_queued_36 (by decide) (fun c6 => ?_) (fun c6 => ?_)
    · have h := h.1 c6
      refine lv_aload_n hx hb dX7_queued_43 rfl (lv_at hl 0 rfl) ?_
      obtain ⟨q7, eq7, h⟩ := h
      refine qr_get (C := RX7) (T := TX7) (N := 35) (ci := 7) hx hb hts in7 hown hG hL3 fK4 (by decide) rfl 30 (by decide) rfl (hts (.fieldLink RX7 80 "QuayMeshModel" "queue" "[I") (List.mem_of_getElem? (i := 3) rfl)) (fun _ h9 => h9) (v := .ref q7) (qs_rf eq7) dX7_queued_44 ?_
      refine lv_bipush (v := (80 : Int32)) hx hb dX7_queued_47 (by decide +kernel) ?_
      refine lv_iload_n hx hb dX7_queued_49 rfl (lv_at hl 1 rfl) ?_
      refine lv_imul hx hb dX7_queued_50 ?_
      refine lv_topi (fun v8 ev8 => ?_)
      have h := h v8 ev8
      refine lv_iload_n hx hb dX7_queued_51 rfl (lv_at hl 2 rfl) ?_
      refine lv_iadd hx hb dX7_queued_52 ?_
      refine lv_topi (fun v9 ev9 => ?_)
      have h := h v9 ev9
      obtain ⟨⟨hL10, fK11⟩, h⟩ := h
      obtain ⟨hi12, h⟩ := h
      refine qr_iald hx hb hG hL10 fK11 hi12 rfl dX7_queued_53 ?_
      refine lv_topi (fun v13 ev13 => ?_)
      have h := h v13 ev13
      exact b54 (qs_wI S 0 r0 s1) v13 _ _ ls h hG (lv_sub hl [] rfl)
    · have h := h.2 c6
      refine lv_iconst (v := (0 : Int32)) hx hb dX7_queued_39 (by decide +kernel) ?_
      refine lv_goto (tgt := 54) hx hb dX7_queued_40 (by decide) ?_
      exact b54 (qs_wI S 0 r0 s1) (0 : Int32) _ _ ls h hG (lv_sub hl [] rfl)
  have b28 : ∀ (S : qs_S) (a0 : Nat) (x1 : Int32) (x2 : Int32) (r0 : Nat) (H : Heap) (locs : List Loc) (ls : Array Slot), wp_X7_queued_b28 g.2.2.2.2.2.2.1 g.2.2.2.2.2.2.2 post S a0 x1 x2 r0 → qs_Gd g (qs_F g SA s.heap.size) s S H locs → lv_has ls 3 [(0, .ref a0), (1, .int x1), (2, .int x2)] → W p l e (headSpec wsX7_queued ({ frames := 2, cells := 0, slots := 0, locals := 42 } : Room)).room s m (([.ref a0z, .int x1z, .int x2z] : List Value)).toArray below meth c H locs 0 0 (MQ below (qs_Qi g (qs_F g SA s.heap.size) post) (([.ref a0z, .int x1z, .int x2z] : List Value)).toArray s 0 0 (qs_F g SA s.heap.size)) (F0 m 28 ls [.ref r0]) := by
    intro S a0 x1 x2 r0 H locs ls h hG hl
    unfold wp_X7_queued_b28 at h
    refine lv_iconst (v := (1 : Int32)) hx hb dX7_queued_28 (by decide +kernel) ?_
    exact b29 S a0 x1 x2 r0 (1 : Int32) _ _ ls h hG (lv_sub hl [0, 1, 2] rfl)
  have hl := lv_entry ([.ref a0z, .int x1z, .int x2z]) (n := 3) (Nat.le_of_ble_eq_true rfl)
  rw [lg_entry_eq]
  generalize (lg_sl ([.ref a0z, .int x1z, .int x2z]) ++ List.replicate (3 - (lg_sl ([.ref a0z, .int x1z, .int x2z])).length) Slot.unset).toArray = ls at hl ⊢
  have hl : lv_has ls 3 [(0, .ref a0z), (1, .int x1z), (2, .int x2z)] := hl
  unfold wp_X7_queued at h
  refine lv_aload_n hx hb dX7_queued_0 rfl (lv_at hl 0 rfl) ?_
  refine lv_iload_n hx hb dX7_queued_1 rfl (lv_at hl 1 rfl) ?_
  refine qc_i hG (va_runS (As := [.int x1z]) (rest := [.ref a0z]) ⟨hx, hb, hml, hown, hts⟩ (c_X7_isWorker l g _ SA x1z h) (va_cwS 1 hts gX7_queued_X7_isWorker rfl rfl rfl (by decide +kernel) ⟨(Nat.le_of_ble_eq_true rfl), (Nat.le_of_ble_eq_true rfl)⟩) ⟨qs_Pc.blind _ _ _ _, hG.pre _⟩ rfl rfl hl.1 rfl (lv_room (Nat.le_of_ble_eq_true rfl)) dX7_queued_2 ⟨Nat.zero_le _, Nat.zero_le _⟩) (fun v17 S16 H locs h hG => ?_)
  refine lv_if_eq (tgt := 28) hx hb dX7_queued_5 (by decide) (fun c18 => ?_) (fun c18 => ?_)
  · have h := h.1 c18
    exact b28 S16 a0z x1z x2z a0z _ _ ls h hG (lv_sub hl [0, 1, 2] rfl)
  · have h := h.2 c18
    refine lv_iload_n hx hb dX7_queued_8 rfl (lv_at hl 2 rfl) ?_
    refine lv_iconst (v := (0 : Int32)) hx hb dX7_queued_9 (by decide +kernel) ?_
    refine lv_aload_n hx hb dX7_queued_10 rfl (lv_at hl 0 rfl) ?_
    obtain ⟨⟨hL19, fK20⟩, h⟩ := h
    obtain ⟨q21, eq21, h⟩ := h
    refine qr_get (C := RX7) (T := TX7) (N := 35) (ci := 7) hx hb hts in7 hown hG hL19 fK20 (by decide) rfl 29 (by decide) rfl (hts (.fieldLink RX7 77 "QuayMeshModel" "many" "[I") (List.mem_of_getElem? (i := 1) rfl)) (fun _ h9 => h9) (v := .ref q21) (qs_rf eq21) dX7_queued_11 ?_
    refine lv_iload_n hx hb dX7_queued_14 rfl (lv_at hl 1 rfl) ?_
    obtain ⟨⟨hL22, fK23⟩, h⟩ := h
    obtain ⟨hi24, h⟩ := h
    refine qr_iald hx hb hG hL22 fK23 hi24 rfl dX7_queued_15 ?_
    refine lv_topi (fun v25 ev25 => ?_)
    have h := h v25 ev25
    refine lv_iconst (v := (1 : Int32)) hx hb dX7_queued_16 (by decide +kernel) ?_
    refine lv_isub hx hb dX7_queued_17 ?_
    refine lv_topi (fun v26 ev26 => ?_)
    have h := h v26 ev26
    refine qc_i hG (va_runS (As := [.int x2z, .int (0 : Int32), .int v26]) (rest := [.ref a0z]) ⟨hx, hb, hml, hown, hts⟩ (c_X7_in l g _ S16 x2z (0 : Int32) v26 h) (va_cwS 3 hts gX7_queued_X7_in rfl rfl rfl (by decide +kernel) ⟨(Nat.le_of_ble_eq_true rfl), (Nat.le_of_ble_eq_true rfl)⟩) ⟨qs_Pc.blind _ _ _ _, hG.pre _⟩ rfl rfl hl.1 rfl (lv_room (Nat.le_of_ble_eq_true rfl)) dX7_queued_18 ⟨Nat.zero_le _, Nat.zero_le _⟩) (fun v30 S29 H locs h hG => ?_)
    refine lv_if_eq (tgt := 28) hx hb dX7_queued_21 (by decide) (fun c31 => ?_) (fun c31 => ?_)
    · have h := h.1 c31
      exact b28 S29 a0z x1z x2z a0z _ _ ls h hG (lv_sub hl [0, 1, 2] rfl)
    · have h := h.2 c31
      refine lv_iconst (v := (0 : Int32)) hx hb dX7_queued_24 (by decide +kernel) ?_
      refine lv_goto (tgt := 29) hx hb dX7_queued_25 (by decide) ?_
      exact b29 S29 a0z x1z x2z a0z (0 : Int32) _ _ ls h hG (lv_sub hl [0, 1, 2] rfl)
def wp_X7_seen_b36 (t0 m9 : Nat) (post : Int32 → qs_S → Prop) (S : qs_S) (s0 : Int32) : Prop := post s0 S
def wp_X7_seen_b16 (t0 m9 : Nat) (post : Int32 → qs_S → Prop) (S : qs_S) (a0 : Nat) (x1 : Int32) (r0 : Nat) (s1 : Int32) : Prop := (r0 ∈ qs_L S ∧ qs_K S r0 = 7) ∧ ((a0 ∈ qs_L (qs_wI S 0 r0 s1) ∧ qs_K (qs_wI S 0 r0 s1) a0 = 7) ∧ (∀ v5 : Int32, v5 = qs_I (qs_wI S 0 r0 s1) 0 a0 → (v5 ≤ 0 → (∃ q7 : Nat, qs_R (qs_wI S 0 r0 s1) 34 a0 = some q7 ∧ ((q7 ∈ qs_L (qs_wI S 0 r0 s1) ∧ qs_K (qs_wI S 0 r0 s1) q7 = 8) ∧ (vp_in x1 (qs_Z (qs_wI S 0 r0 s1) q7) ∧ (∀ v11 : Int32, v11 = qs_A (qs_wI S 0 r0 s1) q7 x1.toNatClampNeg → wp_X7_seen_b36 t0 m9 post (qs_wI S 0 r0 s1) v11))))) ∧ (¬ v5 ≤ 0 → (wp_X7_seen_b36 t0 m9 post (qs_wI S 0 r0 s1) (0 : Int32)))))
def wp_X7_seen (t0 m9 : Nat) (post : Int32 → qs_S → Prop) (SA : qs_S) (a0z : Nat) (x1z : Int32) : Prop := wp_X7_in t0 m9 (fun (v15 : Int32) (S14 : qs_S) => (v15 = 0 → (wp_X7_seen_b16 t0 m9 post S14 a0z x1z a0z (1 : Int32))) ∧ (¬ v15 = 0 → (wp_X7_seen_b16 t0 m9 post S14 a0z x1z a0z (0 : Int32)))) SA x1z (4 : Int32) (7 : Int32)
set_option maxHeartbeats 4000000 in
set_option maxRecDepth 100000 in
theorem c_X7_seen (l : Launch) (g : qs_G) (sz : Nat) (SA : qs_S) (a0z : Nat) (x1z : Int32) {post : Int32 → qs_S → Prop} (h : wp_X7_seen g.2.2.2.2.2.2.1 g.2.2.2.2.2.2.2 post SA a0z x1z) : Met l yX7_seen wsX7_seen ({ frames := 1, cells := 0, slots := 0, locals := 22 } : Room) (qs_Pc g sz SA [.ref a0z, .int x1z]) (qs_Qi g (qs_F g SA sz) post) 0 0 (qs_F g SA sz) := by
  refine Met.ofW (cc := cX7_seen) (maxL := 2) (ret := (some .int)) (by decide +kernel) rfl ?_
  intro p e s m args below meth c s₁ B hml hv
  obtain ⟨rfl, hsz, hG⟩ := qs_Gd.start hv
  subst hsz
  have hx := B.exec
  have hb := B.bytes
  have hr := B.returns
  have hts := atoms_spec (ws := wsX7_seen) B.pre
  have hown : s.vm.findClass RX7 = some m.cls := findClass_of_methodNamed B.named
  have hlk := B.notSynchronized
  have in7 : ∀ w ∈ u_ws RX7 TX7 35, w ∈ wsX7_seen := fun w h => List.mem_cons_of_mem _ (List.mem_append_right _ (h))
  have b36 : ∀ (S : qs_S) (s0 : Int32) (H : Heap) (locs : List Loc) (ls : Array Slot), wp_X7_seen_b36 g.2.2.2.2.2.2.1 g.2.2.2.2.2.2.2 post S s0 → qs_Gd g (qs_F g SA s.heap.size) s S H locs → lv_has ls 2 [] → W p l e (headSpec wsX7_seen ({ frames := 1, cells := 0, slots := 0, locals := 22 } : Room)).room s m (([.ref a0z, .int x1z] : List Value)).toArray below meth c H locs 0 0 (MQ below (qs_Qi g (qs_F g SA s.heap.size) post) (([.ref a0z, .int x1z] : List Value)).toArray s 0 0 (qs_F g SA s.heap.size)) (F0 m 36 ls [.int s0]) := by
    intro S s0 H locs ls h hG hl
    unfold wp_X7_seen_b36 at h
    exact qe_i hx hb hr hlk hG h (Nat.le_refl _) (Nat.le_refl _) dX7_seen_36
  have b16 : ∀ (S : qs_S) (a0 : Nat) (x1 : Int32) (r0 : Nat) (s1 : Int32) (H : Heap) (locs : List Loc) (ls : Array Slot), wp_X7_seen_b16 g.2.2.2.2.2.2.1 g.2.2.2.2.2.2.2 post S a0 x1 r0 s1 → qs_Gd g (qs_F g SA s.heap.size) s S H locs → lv_has ls 2 [(0, .ref a0), (1, .int x1)] → W p l e (headSpec wsX7_seen ({ frames := 1, cells := 0, slots := 0, locals := 22 } : Room)).room s m (([.ref a0z, .int x1z] : List Value)).toArray below meth c H locs 0 0 (MQ below (qs_Qi g (qs_F g SA s.heap.size) post) (([.ref a0z, .int x1z] : List Value)).toArray s 0 0 (qs_F g SA s.heap.size)) (F0 m 16 ls [.int s1, .ref r0]) := by
    intro S a0 x1 r0 s1 H locs ls h hG hl
    unfold wp_X7_seen_b16 at h
    obtain ⟨⟨hL1, fK2⟩, h⟩ := h
    refine qr_putI (C := RX7) (T := TX7) (N := 35) (ci := 7) hx hb hts in7 tyX7 tyX7_ok nmX7 hown hG hL1 fK2 (by decide) rfl 0 (by decide) rfl (hts (.fieldLink RX7 95 "QuayMeshModel" "thrown" "I") (List.mem_of_getElem? (i := 1) rfl)) (fun _ h9 => h9) rfl (x := s1) (tyX7_ok 0 (by decide)) rfl rfl dX7_seen_16 (fun H locs hG => ?_)
    refine lv_aload_n hx hb dX7_seen_19 rfl (lv_at hl 0 rfl) ?_
    obtain ⟨⟨hL3, fK4⟩, h⟩ := h
    refine qr_get (C := RX7) (T := TX7) (N := 35) (ci := 7) hx hb hts in7 hown hG hL3 fK4 (by decide) rfl 0 (by decide) rfl (hts (.fieldLink RX7 95 "QuayMeshModel" "thrown" "I") (List.mem_of_getElem? (i := 1) rfl)) (fun _ h9 => h9) (v := .int (qs_I (qs_wI S 0 r0 s1) 0 a0)) rfl dX7_seen_20 ?_
    refine lv_topi (fun v5 ev5 => ?_)
    have h := h v5 ev5
    refine lv_if_le (tgt := 30) hx hb dX7_seen_23 (by decide) (fun c6 => ?_) (fun c6 => ?_)
    · have h := h.1 c6
      refine lv_aload_n hx hb dX7_seen_30 rfl (lv_at hl 0 rfl) ?_
      obtain ⟨q7, eq7, h⟩ := h
      refine qr_get (C := RX7) (T := TX7) (N := 35) (ci := 7) hx hb hts in7 hown hG hL3 fK4 (by decide) rfl 34 (by decide) rfl (hts (.fieldLink RX7 92 "QuayMeshModel" "seen" "[I") (List.mem_of_getElem? (i := 2) rfl)) (fun _ h9 => h9) (v := .ref q7) (qs_rf eq7) dX7_seen_31 ?_
      refine lv_iload_n hx hb dX7_seen_34 rfl (lv_at hl 1 rfl) ?_
      obtain ⟨⟨hL8, fK9⟩, h⟩ := h
      obtain ⟨hi10, h⟩ := h
      refine qr_iald hx hb hG hL8 fK9 hi10 rfl dX7_seen_35 ?_
      refine lv_topi (fun v11 ev11 => ?_)
      have h := h v11 ev11
      exact b36 (qs_wI S 0 r0 s1) v11 _ _ ls h hG (lv_sub hl [] rfl)
    · have h := h.2 c6
      refine lv_iconst (v := (0 : Int32)) hx hb dX7_seen_26 (by decide +kernel) ?_
      refine lv_goto (tgt := 36) hx hb dX7_seen_27 (by decide) ?_
      exact b36 (qs_wI S 0 r0 s1) (0 : Int32) _ _ ls h hG (lv_sub hl [] rfl)
  have hl := lv_entry ([.ref a0z, .int x1z]) (n := 2) (Nat.le_of_ble_eq_true rfl)
  rw [lg_entry_eq]
  generalize (lg_sl ([.ref a0z, .int x1z]) ++ List.replicate (2 - (lg_sl ([.ref a0z, .int x1z])).length) Slot.unset).toArray = ls at hl ⊢
  have hl : lv_has ls 2 [(0, .ref a0z), (1, .int x1z)] := hl
  unfold wp_X7_seen at h
  refine lv_aload_n hx hb dX7_seen_0 rfl (lv_at hl 0 rfl) ?_
  refine lv_iload_n hx hb dX7_seen_1 rfl (lv_at hl 1 rfl) ?_
  refine lv_iconst (v := (4 : Int32)) hx hb dX7_seen_2 (by decide +kernel) ?_
  refine lv_bipush (v := (7 : Int32)) hx hb dX7_seen_3 (by decide +kernel) ?_
  refine qc_i hG (va_runS (As := [.int x1z, .int (4 : Int32), .int (7 : Int32)]) (rest := [.ref a0z]) ⟨hx, hb, hml, hown, hts⟩ (c_X7_in l g _ SA x1z (4 : Int32) (7 : Int32) h) (va_cwS 3 hts gX7_seen_X7_in rfl rfl rfl (by decide +kernel) ⟨(Nat.le_of_ble_eq_true rfl), (Nat.le_of_ble_eq_true rfl)⟩) ⟨qs_Pc.blind _ _ _ _, hG.pre _⟩ rfl rfl hl.1 rfl (lv_room (Nat.le_of_ble_eq_true rfl)) dX7_seen_5 ⟨Nat.zero_le _, Nat.zero_le _⟩) (fun v15 S14 H locs h hG => ?_)
  refine lv_if_eq (tgt := 15) hx hb dX7_seen_8 (by decide) (fun c16 => ?_) (fun c16 => ?_)
  · have h := h.1 c16
    refine lv_iconst (v := (1 : Int32)) hx hb dX7_seen_15 (by decide +kernel) ?_
    exact b16 S14 a0z x1z a0z (1 : Int32) _ _ ls h hG (lv_sub hl [0, 1] rfl)
  · have h := h.2 c16
    refine lv_iconst (v := (0 : Int32)) hx hb dX7_seen_11 (by decide +kernel) ?_
    refine lv_goto (tgt := 16) hx hb dX7_seen_12 (by decide) ?_
    exact b16 S14 a0z x1z a0z (0 : Int32) _ _ ls h hG (lv_sub hl [0, 1] rfl)
def wp_X7_asksMessage_b35 (t0 m9 : Nat) (post : Int32 → qs_S → Prop) (S : qs_S) (s0 : Int32) : Prop := (s0 = 0 ∨ s0 = 1) ∧ post s0 S
def wp_X7_asksMessage_b20 (t0 m9 : Nat) (post : Int32 → qs_S → Prop) (S : qs_S) (a0 : Nat) (r0 : Nat) (s1 : Int32) : Prop := (r0 ∈ qs_L S ∧ qs_K S r0 = 7) ∧ ((a0 ∈ qs_L (qs_wI S 0 r0 s1) ∧ qs_K (qs_wI S 0 r0 s1) a0 = 7) ∧ (∀ v6 : Int32, v6 = qs_I (qs_wI S 0 r0 s1) 0 a0 → (¬ v6 = 0 → (wp_X7_asksMessage_b35 t0 m9 post (qs_wI S 0 r0 s1) (0 : Int32))) ∧ (v6 = 0 → (wp_X7_asksMessage_b35 t0 m9 post (qs_wI S 0 r0 s1) (1 : Int32)))))
def wp_X7_asksMessage (t0 m9 : Nat) (post : Int32 → qs_S → Prop) (SA : qs_S) (a0z : Nat) (x1z : Int32) : Prop := (a0z ∈ qs_L SA ∧ qs_K SA a0z = 7) ∧ (∀ v10 : Int32, v10 = qs_I SA 18 a0z → ∀ v11 : Int32, v11 = v10 - (1 : Int32) → wp_X7_in t0 m9 (fun (v15 : Int32) (S14 : qs_S) => (v15 = 0 → (wp_X7_asksMessage_b20 t0 m9 post S14 a0z a0z (1 : Int32))) ∧ (¬ v15 = 0 → (wp_X7_asksMessage_b20 t0 m9 post S14 a0z a0z (0 : Int32)))) SA x1z (0 : Int32) v11)
set_option maxHeartbeats 4000000 in
set_option maxRecDepth 100000 in
theorem c_X7_asksMessage (l : Launch) (g : qs_G) (sz : Nat) (SA : qs_S) (a0z : Nat) (x1z : Int32) {post : Int32 → qs_S → Prop} (h : wp_X7_asksMessage g.2.2.2.2.2.2.1 g.2.2.2.2.2.2.2 post SA a0z x1z) : Met l yX7_asksMessage wsX7_asksMessage ({ frames := 1, cells := 0, slots := 0, locals := 22 } : Room) (qs_Pc g sz SA [.ref a0z, .int x1z]) (qs_Qi g (qs_F g SA sz) post) 0 0 (qs_F g SA sz) := by
  refine Met.ofW (cc := cX7_asksMessage) (maxL := 2) (ret := (some .boolean)) (by decide +kernel) rfl ?_
  intro p e s m args below meth c s₁ B hml hv
  obtain ⟨rfl, hsz, hG⟩ := qs_Gd.start hv
  subst hsz
  have hx := B.exec
  have hb := B.bytes
  have hr := B.returns
  have hts := atoms_spec (ws := wsX7_asksMessage) B.pre
  have hown : s.vm.findClass RX7 = some m.cls := findClass_of_methodNamed B.named
  have hlk := B.notSynchronized
  have in7 : ∀ w ∈ u_ws RX7 TX7 35, w ∈ wsX7_asksMessage := fun w h => List.mem_cons_of_mem _ (List.mem_append_right _ (h))
  have b35 : ∀ (S : qs_S) (s0 : Int32) (H : Heap) (locs : List Loc) (ls : Array Slot), wp_X7_asksMessage_b35 g.2.2.2.2.2.2.1 g.2.2.2.2.2.2.2 post S s0 → qs_Gd g (qs_F g SA s.heap.size) s S H locs → lv_has ls 2 [] → W p l e (headSpec wsX7_asksMessage ({ frames := 1, cells := 0, slots := 0, locals := 22 } : Room)).room s m (([.ref a0z, .int x1z] : List Value)).toArray below meth c H locs 0 0 (MQ below (qs_Qi g (qs_F g SA s.heap.size) post) (([.ref a0z, .int x1z] : List Value)).toArray s 0 0 (qs_F g SA s.heap.size)) (F0 m 35 ls [.int s0]) := by
    intro S s0 H locs ls h hG hl
    unfold wp_X7_asksMessage_b35 at h
    obtain ⟨z1, h⟩ := h
    exact qe_z hx hb hr hlk z1 hG h (Nat.le_refl _) (Nat.le_refl _) dX7_asksMessage_35
  have b20 : ∀ (S : qs_S) (a0 : Nat) (r0 : Nat) (s1 : Int32) (H : Heap) (locs : List Loc) (ls : Array Slot), wp_X7_asksMessage_b20 g.2.2.2.2.2.2.1 g.2.2.2.2.2.2.2 post S a0 r0 s1 → qs_Gd g (qs_F g SA s.heap.size) s S H locs → lv_has ls 2 [(0, .ref a0)] → W p l e (headSpec wsX7_asksMessage ({ frames := 1, cells := 0, slots := 0, locals := 22 } : Room)).room s m (([.ref a0z, .int x1z] : List Value)).toArray below meth c H locs 0 0 (MQ below (qs_Qi g (qs_F g SA s.heap.size) post) (([.ref a0z, .int x1z] : List Value)).toArray s 0 0 (qs_F g SA s.heap.size)) (F0 m 20 ls [.int s1, .ref r0]) := by
    intro S a0 r0 s1 H locs ls h hG hl
    unfold wp_X7_asksMessage_b20 at h
    obtain ⟨⟨hL2, fK3⟩, h⟩ := h
    refine qr_putI (C := RX7) (T := TX7) (N := 35) (ci := 7) hx hb hts in7 tyX7 tyX7_ok nmX7 hown hG hL2 fK3 (by decide) rfl 0 (by decide) rfl (hts (.fieldLink RX7 95 "QuayMeshModel" "thrown" "I") (List.mem_of_getElem? (i := 2) rfl)) (fun _ h9 => h9) rfl (x := s1) (tyX7_ok 0 (by decide)) rfl rfl dX7_asksMessage_20 (fun H locs hG => ?_)
    refine lv_aload_n hx hb dX7_asksMessage_23 rfl (lv_at hl 0 rfl) ?_
    obtain ⟨⟨hL4, fK5⟩, h⟩ := h
    refine qr_get (C := RX7) (T := TX7) (N := 35) (ci := 7) hx hb hts in7 hown hG hL4 fK5 (by decide) rfl 0 (by decide) rfl (hts (.fieldLink RX7 95 "QuayMeshModel" "thrown" "I") (List.mem_of_getElem? (i := 2) rfl)) (fun _ h9 => h9) (v := .int (qs_I (qs_wI S 0 r0 s1) 0 a0)) rfl dX7_asksMessage_24 ?_
    refine lv_topi (fun v6 ev6 => ?_)
    have h := h v6 ev6
    refine lv_if_ne (tgt := 34) hx hb dX7_asksMessage_27 (by decide) (fun c7 => ?_) (fun c7 => ?_)
    · have h := h.1 c7
      refine lv_iconst (v := (0 : Int32)) hx hb dX7_asksMessage_34 (by decide +kernel) ?_
      exact b35 (qs_wI S 0 r0 s1) (0 : Int32) _ _ ls h hG (lv_sub hl [] rfl)
    · have h := h.2 c7
      refine lv_iconst (v := (1 : Int32)) hx hb dX7_asksMessage_30 (by decide +kernel) ?_
      refine lv_goto (tgt := 35) hx hb dX7_asksMessage_31 (by decide) ?_
      exact b35 (qs_wI S 0 r0 s1) (1 : Int32) _ _ ls h hG (lv_sub hl [] rfl)
  have hl := lv_entry ([.ref a0z, .int x1z]) (n := 2) (Nat.le_of_ble_eq_true rfl)
  rw [lg_entry_eq]
  generalize (lg_sl ([.ref a0z, .int x1z]) ++ List.replicate (2 - (lg_sl ([.ref a0z, .int x1z])).length) Slot.unset).toArray = ls at hl ⊢
  have hl : lv_has ls 2 [(0, .ref a0z), (1, .int x1z)] := hl
  unfold wp_X7_asksMessage at h
  refine lv_aload_n hx hb dX7_asksMessage_0 rfl (lv_at hl 0 rfl) ?_
  refine lv_iload_n hx hb dX7_asksMessage_1 rfl (lv_at hl 1 rfl) ?_
  refine lv_iconst (v := (0 : Int32)) hx hb dX7_asksMessage_2 (by decide +kernel) ?_
  refine lv_aload_n hx hb dX7_asksMessage_3 rfl (lv_at hl 0 rfl) ?_
  obtain ⟨⟨hL8, fK9⟩, h⟩ := h
  refine qr_get (C := RX7) (T := TX7) (N := 35) (ci := 7) hx hb hts in7 hown hG hL8 fK9 (by decide) rfl 18 (by decide) rfl (hts (.fieldLink RX7 130 "QuayMeshModel" "messages" "I") (List.mem_of_getElem? (i := 1) rfl)) (fun _ h9 => h9) (v := .int (qs_I SA 18 a0z)) rfl dX7_asksMessage_4 ?_
  refine lv_topi (fun v10 ev10 => ?_)
  have h := h v10 ev10
  refine lv_iconst (v := (1 : Int32)) hx hb dX7_asksMessage_7 (by decide +kernel) ?_
  refine lv_isub hx hb dX7_asksMessage_8 ?_
  refine lv_topi (fun v11 ev11 => ?_)
  have h := h v11 ev11
  refine qc_i hG (va_runS (As := [.int x1z, .int (0 : Int32), .int v11]) (rest := [.ref a0z]) ⟨hx, hb, hml, hown, hts⟩ (c_X7_in l g _ SA x1z (0 : Int32) v11 h) (va_cwS 3 hts gX7_asksMessage_X7_in rfl rfl rfl (by decide +kernel) ⟨(Nat.le_of_ble_eq_true rfl), (Nat.le_of_ble_eq_true rfl)⟩) ⟨qs_Pc.blind _ _ _ _, hG.pre _⟩ rfl rfl hl.1 rfl (lv_room (Nat.le_of_ble_eq_true rfl)) dX7_asksMessage_9 ⟨Nat.zero_le _, Nat.zero_le _⟩) (fun v15 S14 H locs h hG => ?_)
  refine lv_if_eq (tgt := 19) hx hb dX7_asksMessage_12 (by decide) (fun c16 => ?_) (fun c16 => ?_)
  · have h := h.1 c16
    refine lv_iconst (v := (1 : Int32)) hx hb dX7_asksMessage_19 (by decide +kernel) ?_
    exact b20 S14 a0z a0z (1 : Int32) _ _ ls h hG (lv_sub hl [0] rfl)
  · have h := h.2 c16
    refine lv_iconst (v := (0 : Int32)) hx hb dX7_asksMessage_15 (by decide +kernel) ?_
    refine lv_goto (tgt := 20) hx hb dX7_asksMessage_16 (by decide) ?_
    exact b20 S14 a0z a0z (0 : Int32) _ _ ls h hG (lv_sub hl [0] rfl)
def wp_X7_handed_b18 (t0 m9 : Nat) (post : Int32 → qs_S → Prop) (S : qs_S) (s0 : Int32) : Prop := post s0 S
def wp_X7_handed (t0 m9 : Nat) (post : Int32 → qs_S → Prop) (SA : qs_S) (a0z : Nat) (x1z : Int32) : Prop := (a0z ∈ qs_L SA ∧ qs_K SA a0z = 7) ∧ (wp_X7_asksMessage t0 m9 (fun (v6 : Int32) (S5 : qs_S) => (v6 = 0 → (wp_X7_handed_b18 t0 m9 post S5 (0 : Int32))) ∧ (¬ v6 = 0 → ((a0z ∈ qs_L S5 ∧ qs_K S5 a0z = 7) ∧ (∃ q10 : Nat, qs_R S5 22 a0z = some q10 ∧ ((q10 ∈ qs_L S5 ∧ qs_K S5 q10 = 8) ∧ (vp_in x1z (qs_Z S5 q10) ∧ (∀ v14 : Int32, v14 = qs_A S5 q10 x1z.toNatClampNeg → wp_X7_handed_b18 t0 m9 post S5 v14))))))) SA a0z x1z)
set_option maxHeartbeats 4000000 in
set_option maxRecDepth 100000 in
theorem c_X7_handed (l : Launch) (g : qs_G) (sz : Nat) (SA : qs_S) (a0z : Nat) (x1z : Int32) {post : Int32 → qs_S → Prop} (h : wp_X7_handed g.2.2.2.2.2.2.1 g.2.2.2.2.2.2.2 post SA a0z x1z) : Met l yX7_handed wsX7_handed ({ frames := 2, cells := 0, slots := 0, locals := 43 } : Room) (qs_Pc g sz SA [.ref a0z, .int x1z]) (qs_Qi g (qs_F g SA sz) post) 0 0 (qs_F g SA sz) := by
  refine Met.ofW (cc := cX7_handed) (maxL := 2) (ret := (some .int)) (by decide +kernel) rfl ?_
  intro p e s m args below meth c s₁ B hml hv
  obtain ⟨rfl, hsz, hG⟩ := qs_Gd.start hv
  subst hsz
  have hx := B.exec
  have hb := B.bytes
  have hr := B.returns
  have hts := atoms_spec (ws := wsX7_handed) B.pre
  have hown : s.vm.findClass RX7 = some m.cls := findClass_of_methodNamed B.named
  have hlk := B.notSynchronized
  have in7 : ∀ w ∈ u_ws RX7 TX7 35, w ∈ wsX7_handed := fun w h => List.mem_cons_of_mem _ (List.mem_append_right _ (h))
  have b18 : ∀ (S : qs_S) (s0 : Int32) (H : Heap) (locs : List Loc) (ls : Array Slot), wp_X7_handed_b18 g.2.2.2.2.2.2.1 g.2.2.2.2.2.2.2 post S s0 → qs_Gd g (qs_F g SA s.heap.size) s S H locs → lv_has ls 2 [] → W p l e (headSpec wsX7_handed ({ frames := 2, cells := 0, slots := 0, locals := 43 } : Room)).room s m (([.ref a0z, .int x1z] : List Value)).toArray below meth c H locs 0 0 (MQ below (qs_Qi g (qs_F g SA s.heap.size) post) (([.ref a0z, .int x1z] : List Value)).toArray s 0 0 (qs_F g SA s.heap.size)) (F0 m 18 ls [.int s0]) := by
    intro S s0 H locs ls h hG hl
    unfold wp_X7_handed_b18 at h
    exact qe_i hx hb hr hlk hG h (Nat.le_refl _) (Nat.le_refl _) dX7_handed_18
  have hl := lv_entry ([.ref a0z, .int x1z]) (n := 2) (Nat.le_of_ble_eq_true rfl)
  rw [lg_entry_eq]
  generalize (lg_sl ([.ref a0z, .int x1z]) ++ List.replicate (2 - (lg_sl ([.ref a0z, .int x1z])).length) Slot.unset).toArray = ls at hl ⊢
  have hl : lv_has ls 2 [(0, .ref a0z), (1, .int x1z)] := hl
  unfold wp_X7_handed at h
  refine lv_aload_n hx hb dX7_handed_0 rfl (lv_at hl 0 rfl) ?_
  refine lv_iload_n hx hb dX7_handed_1 rfl (lv_at hl 1 rfl) ?_
  obtain ⟨⟨hL3, fK4⟩, h⟩ := h
  refine qc_i hG (va_runV (As := [.int x1z]) (rest := []) ⟨hx, hb, hml, hown, hts⟩ (c_X7_asksMessage l g _ SA a0z x1z h) (cwV 1 hts gX7_handed_X7_asksMessage rfl rfl rfl (by decide +kernel) ⟨(Nat.le_of_ble_eq_true rfl), (Nat.le_of_ble_eq_true rfl)⟩) ⟨qs_Pc.blind _ _ _ _, hG.recv hL3 fK4 (by decide) rfl, hG.pre _⟩ rfl rfl hl.1 rfl (lv_room (Nat.le_of_ble_eq_true rfl)) dX7_handed_2 ⟨Nat.zero_le _, Nat.zero_le _⟩) (fun v6 S5 H locs h hG => ?_)
  refine lv_if_eq (tgt := 17) hx hb dX7_handed_5 (by decide) (fun c7 => ?_) (fun c7 => ?_)
  · have h := h.1 c7
    refine lv_iconst (v := (0 : Int32)) hx hb dX7_handed_17 (by decide +kernel) ?_
    exact b18 S5 (0 : Int32) _ _ ls h hG (lv_sub hl [] rfl)
  · have h := h.2 c7
    refine lv_aload_n hx hb dX7_handed_8 rfl (lv_at hl 0 rfl) ?_
    obtain ⟨⟨hL8, fK9⟩, h⟩ := h
    obtain ⟨q10, eq10, h⟩ := h
    refine qr_get (C := RX7) (T := TX7) (N := 35) (ci := 7) hx hb hts in7 hown hG hL8 fK9 (by decide) rfl 22 (by decide) rfl (hts (.fieldLink RX7 62 "QuayMeshModel" "handed" "[I") (List.mem_of_getElem? (i := 1) rfl)) (fun _ h9 => h9) (v := .ref q10) (qs_rf eq10) dX7_handed_9 ?_
    refine lv_iload_n hx hb dX7_handed_12 rfl (lv_at hl 1 rfl) ?_
    obtain ⟨⟨hL11, fK12⟩, h⟩ := h
    obtain ⟨hi13, h⟩ := h
    refine qr_iald hx hb hG hL11 fK12 hi13 rfl dX7_handed_13 ?_
    refine lv_topi (fun v14 ev14 => ?_)
    have h := h v14 ev14
    refine lv_goto (tgt := 18) hx hb dX7_handed_14 (by decide) ?_
    exact b18 S5 v14 _ _ ls h hG (lv_sub hl [] rfl)
def wp_X7_isDone_b22 (t0 m9 : Nat) (post : Int32 → qs_S → Prop) (S : qs_S) (s0 : Int32) : Prop := (s0 = 0 ∨ s0 = 1) ∧ post s0 S
def wp_X7_isDone_b21 (t0 m9 : Nat) (post : Int32 → qs_S → Prop) (S : qs_S) : Prop := wp_X7_isDone_b22 t0 m9 post S (0 : Int32)
def wp_X7_isDone (t0 m9 : Nat) (post : Int32 → qs_S → Prop) (SA : qs_S) (a0z : Nat) (x1z : Int32) : Prop := (a0z ∈ qs_L SA ∧ qs_K SA a0z = 7) ∧ (wp_X7_asksMessage t0 m9 (fun (v7 : Int32) (S6 : qs_S) => (v7 = 0 → (wp_X7_isDone_b21 t0 m9 post S6)) ∧ (¬ v7 = 0 → ((a0z ∈ qs_L S6 ∧ qs_K S6 a0z = 7) ∧ (∃ q11 : Nat, qs_R S6 23 a0z = some q11 ∧ ((q11 ∈ qs_L S6 ∧ qs_K S6 q11 = 8) ∧ (vp_in x1z (qs_Z S6 q11) ∧ (∀ v15 : Int32, v15 = qs_A S6 q11 x1z.toNatClampNeg → (v15 ≤ 0 → (wp_X7_isDone_b21 t0 m9 post S6)) ∧ (¬ v15 ≤ 0 → (wp_X7_isDone_b22 t0 m9 post S6 (1 : Int32)))))))))) SA a0z x1z)
set_option maxHeartbeats 4000000 in
set_option maxRecDepth 100000 in
theorem c_X7_isDone (l : Launch) (g : qs_G) (sz : Nat) (SA : qs_S) (a0z : Nat) (x1z : Int32) {post : Int32 → qs_S → Prop} (h : wp_X7_isDone g.2.2.2.2.2.2.1 g.2.2.2.2.2.2.2 post SA a0z x1z) : Met l yX7_isDone wsX7_isDone ({ frames := 2, cells := 0, slots := 0, locals := 43 } : Room) (qs_Pc g sz SA [.ref a0z, .int x1z]) (qs_Qi g (qs_F g SA sz) post) 0 0 (qs_F g SA sz) := by
  refine Met.ofW (cc := cX7_isDone) (maxL := 2) (ret := (some .boolean)) (by decide +kernel) rfl ?_
  intro p e s m args below meth c s₁ B hml hv
  obtain ⟨rfl, hsz, hG⟩ := qs_Gd.start hv
  subst hsz
  have hx := B.exec
  have hb := B.bytes
  have hr := B.returns
  have hts := atoms_spec (ws := wsX7_isDone) B.pre
  have hown : s.vm.findClass RX7 = some m.cls := findClass_of_methodNamed B.named
  have hlk := B.notSynchronized
  have in7 : ∀ w ∈ u_ws RX7 TX7 35, w ∈ wsX7_isDone := fun w h => List.mem_cons_of_mem _ (List.mem_append_right _ (h))
  have b22 : ∀ (S : qs_S) (s0 : Int32) (H : Heap) (locs : List Loc) (ls : Array Slot), wp_X7_isDone_b22 g.2.2.2.2.2.2.1 g.2.2.2.2.2.2.2 post S s0 → qs_Gd g (qs_F g SA s.heap.size) s S H locs → lv_has ls 2 [] → W p l e (headSpec wsX7_isDone ({ frames := 2, cells := 0, slots := 0, locals := 43 } : Room)).room s m (([.ref a0z, .int x1z] : List Value)).toArray below meth c H locs 0 0 (MQ below (qs_Qi g (qs_F g SA s.heap.size) post) (([.ref a0z, .int x1z] : List Value)).toArray s 0 0 (qs_F g SA s.heap.size)) (F0 m 22 ls [.int s0]) := by
    intro S s0 H locs ls h hG hl
    unfold wp_X7_isDone_b22 at h
    obtain ⟨z1, h⟩ := h
    exact qe_z hx hb hr hlk z1 hG h (Nat.le_refl _) (Nat.le_refl _) dX7_isDone_22
  have b21 : ∀ (S : qs_S) (H : Heap) (locs : List Loc) (ls : Array Slot), wp_X7_isDone_b21 g.2.2.2.2.2.2.1 g.2.2.2.2.2.2.2 post S → qs_Gd g (qs_F g SA s.heap.size) s S H locs → lv_has ls 2 [] → W p l e (headSpec wsX7_isDone ({ frames := 2, cells := 0, slots := 0, locals := 43 } : Room)).room s m (([.ref a0z, .int x1z] : List Value)).toArray below meth c H locs 0 0 (MQ below (qs_Qi g (qs_F g SA s.heap.size) post) (([.ref a0z, .int x1z] : List Value)).toArray s 0 0 (qs_F g SA s.heap.size)) (F0 m 21 ls []) := by
    intro S H locs ls h hG hl
    unfold wp_X7_isDone_b21 at h
    refine lv_iconst (v := (0 : Int32)) hx hb dX7_isDone_21 (by decide +kernel) ?_
    exact b22 S (0 : Int32) _ _ ls h hG (lv_sub hl [] rfl)
  have hl := lv_entry ([.ref a0z, .int x1z]) (n := 2) (Nat.le_of_ble_eq_true rfl)
  rw [lg_entry_eq]
  generalize (lg_sl ([.ref a0z, .int x1z]) ++ List.replicate (2 - (lg_sl ([.ref a0z, .int x1z])).length) Slot.unset).toArray = ls at hl ⊢
  have hl : lv_has ls 2 [(0, .ref a0z), (1, .int x1z)] := hl
  unfold wp_X7_isDone at h
  refine lv_aload_n hx hb dX7_isDone_0 rfl (lv_at hl 0 rfl) ?_
  refine lv_iload_n hx hb dX7_isDone_1 rfl (lv_at hl 1 rfl) ?_
  obtain ⟨⟨hL4, fK5⟩, h⟩ := h
  refine qc_i hG (va_runV (As := [.int x1z]) (rest := []) ⟨hx, hb, hml, hown, hts⟩ (c_X7_asksMessage l g _ SA a0z x1z h) (cwV 1 hts gX7_isDone_X7_asksMessage rfl rfl rfl (by decide +kernel) ⟨(Nat.le_of_ble_eq_true rfl), (Nat.le_of_ble_eq_true rfl)⟩) ⟨qs_Pc.blind _ _ _ _, hG.recv hL4 fK5 (by decide) rfl, hG.pre _⟩ rfl rfl hl.1 rfl (lv_room (Nat.le_of_ble_eq_true rfl)) dX7_isDone_2 ⟨Nat.zero_le _, Nat.zero_le _⟩) (fun v7 S6 H locs h hG => ?_)
  refine lv_if_eq (tgt := 21) hx hb dX7_isDone_5 (by decide) (fun c8 => ?_) (fun c8 => ?_)
  · have h := h.1 c8
    exact b21 S6 _ _ ls h hG (lv_sub hl [] rfl)
  · have h := h.2 c8
    refine lv_aload_n hx hb dX7_isDone_8 rfl (lv_at hl 0 rfl) ?_
    obtain ⟨⟨hL9, fK10⟩, h⟩ := h
    obtain ⟨q11, eq11, h⟩ := h
    refine qr_get (C := RX7) (T := TX7) (N := 35) (ci := 7) hx hb hts in7 hown hG hL9 fK10 (by decide) rfl 23 (by decide) rfl (hts (.fieldLink RX7 65 "QuayMeshModel" "made" "[I") (List.mem_of_getElem? (i := 1) rfl)) (fun _ h9 => h9) (v := .ref q11) (qs_rf eq11) dX7_isDone_9 ?_
    refine lv_iload_n hx hb dX7_isDone_12 rfl (lv_at hl 1 rfl) ?_
    obtain ⟨⟨hL12, fK13⟩, h⟩ := h
    obtain ⟨hi14, h⟩ := h
    refine qr_iald hx hb hG hL12 fK13 hi14 rfl dX7_isDone_13 ?_
    refine lv_topi (fun v15 ev15 => ?_)
    have h := h v15 ev15
    refine lv_if_le (tgt := 21) hx hb dX7_isDone_14 (by decide) (fun c16 => ?_) (fun c16 => ?_)
    · have h := h.1 c16
      exact b21 S6 _ _ ls h hG (lv_sub hl [] rfl)
    · have h := h.2 c16
      refine lv_iconst (v := (1 : Int32)) hx hb dX7_isDone_17 (by decide +kernel) ?_
      refine lv_goto (tgt := 22) hx hb dX7_isDone_18 (by decide) ?_
      exact b22 S6 (1 : Int32) _ _ ls h hG (lv_sub hl [] rfl)
def wp_X7_moves (t0 m9 : Nat) (post : Int32 → qs_S → Prop) (SA : qs_S) (a0z : Nat) : Prop := (a0z ∈ qs_L SA ∧ qs_K SA a0z = 7) ∧ (∀ v3 : Int32, v3 = qs_I (qs_wI SA 0 a0z (0 : Int32)) 27 a0z → post v3 (qs_wI SA 0 a0z (0 : Int32)))
set_option maxHeartbeats 4000000 in
set_option maxRecDepth 100000 in
theorem c_X7_moves (l : Launch) (g : qs_G) (sz : Nat) (SA : qs_S) (a0z : Nat) {post : Int32 → qs_S → Prop} (h : wp_X7_moves g.2.2.2.2.2.2.1 g.2.2.2.2.2.2.2 post SA a0z) : Met l yX7_moves wsX7_moves ({ frames := 0, cells := 0, slots := 0, locals := 0 } : Room) (qs_Pc g sz SA [.ref a0z]) (qs_Qi g (qs_F g SA sz) post) 0 0 (qs_F g SA sz) := by
  refine Met.ofW (cc := cX7_moves) (maxL := 1) (ret := (some .int)) (by decide +kernel) rfl ?_
  intro p e s m args below meth c s₁ B hml hv
  obtain ⟨rfl, hsz, hG⟩ := qs_Gd.start hv
  subst hsz
  have hx := B.exec
  have hb := B.bytes
  have hr := B.returns
  have hts := atoms_spec (ws := wsX7_moves) B.pre
  have hown : s.vm.findClass RX7 = some m.cls := findClass_of_methodNamed B.named
  have hlk := B.notSynchronized
  have in7 : ∀ w ∈ u_ws RX7 TX7 35, w ∈ wsX7_moves := fun w h => List.mem_cons_of_mem _ (List.mem_append_right _ (h))
  have hl := lv_entry ([.ref a0z]) (n := 1) (Nat.le_of_ble_eq_true rfl)
  rw [lg_entry_eq]
  generalize (lg_sl ([.ref a0z]) ++ List.replicate (1 - (lg_sl ([.ref a0z])).length) Slot.unset).toArray = ls at hl ⊢
  have hl : lv_has ls 1 [(0, .ref a0z)] := hl
  unfold wp_X7_moves at h
  refine lv_aload_n hx hb dX7_moves_0 rfl (lv_at hl 0 rfl) ?_
  refine lv_iconst (v := (0 : Int32)) hx hb dX7_moves_1 (by decide +kernel) ?_
  obtain ⟨⟨hL1, fK2⟩, h⟩ := h
  refine qr_putI (C := RX7) (T := TX7) (N := 35) (ci := 7) hx hb hts in7 tyX7 tyX7_ok nmX7 hown hG hL1 fK2 (by decide) rfl 0 (by decide) rfl (hts (.fieldLink RX7 95 "QuayMeshModel" "thrown" "I") (List.mem_of_getElem? (i := 1) rfl)) (fun _ h9 => h9) rfl (x := (0 : Int32)) (tyX7_ok 0 (by decide)) rfl rfl dX7_moves_2 (fun H locs hG => ?_)
  refine lv_aload_n hx hb dX7_moves_5 rfl (lv_at hl 0 rfl) ?_
  refine qr_get (C := RX7) (T := TX7) (N := 35) (ci := 7) hx hb hts in7 hown hG hL1 fK2 (by decide) rfl 27 (by decide) rfl (hts (.fieldLink RX7 143 "QuayMeshModel" "logged" "I") (List.mem_of_getElem? (i := 2) rfl)) (fun _ h9 => h9) (v := .int (qs_I (qs_wI SA 0 a0z (0 : Int32)) 27 a0z)) rfl dX7_moves_6 ?_
  refine lv_topi (fun v3 ev3 => ?_)
  have h := h v3 ev3
  exact qe_i hx hb hr hlk hG h (Nat.le_refl _) (Nat.le_refl _) dX7_moves_9
def wp_X7_moveAt_b40 (t0 m9 : Nat) (post : Int32 → qs_S → Prop) (S : qs_S) (s0 : Int32) : Prop := post s0 S
def wp_X7_moveAt_b20 (t0 m9 : Nat) (post : Int32 → qs_S → Prop) (S : qs_S) (a0 : Nat) (x1 : Int32) (r0 : Nat) (s1 : Int32) : Prop := (r0 ∈ qs_L S ∧ qs_K S r0 = 7) ∧ ((a0 ∈ qs_L (qs_wI S 0 r0 s1) ∧ qs_K (qs_wI S 0 r0 s1) a0 = 7) ∧ (∀ v5 : Int32, v5 = qs_I (qs_wI S 0 r0 s1) 0 a0 → (v5 ≤ 0 → (∃ q7 : Nat, qs_R (qs_wI S 0 r0 s1) 28 a0 = some q7 ∧ ((q7 ∈ qs_L (qs_wI S 0 r0 s1) ∧ qs_K (qs_wI S 0 r0 s1) q7 = 8) ∧ (vp_in x1 (qs_Z (qs_wI S 0 r0 s1) q7) ∧ (∀ v11 : Int32, v11 = qs_A (qs_wI S 0 r0 s1) q7 x1.toNatClampNeg → wp_X7_moveAt_b40 t0 m9 post (qs_wI S 0 r0 s1) v11))))) ∧ (¬ v5 ≤ 0 → (wp_X7_moveAt_b40 t0 m9 post (qs_wI S 0 r0 s1) (0 : Int32)))))
def wp_X7_moveAt (t0 m9 : Nat) (post : Int32 → qs_S → Prop) (SA : qs_S) (a0z : Nat) (x1z : Int32) : Prop := (a0z ∈ qs_L SA ∧ qs_K SA a0z = 7) ∧ (∀ v14 : Int32, v14 = qs_I SA 27 a0z → ∀ v15 : Int32, v15 = v14 - (1 : Int32) → wp_X7_in t0 m9 (fun (v19 : Int32) (S18 : qs_S) => (v19 = 0 → (wp_X7_moveAt_b20 t0 m9 post S18 a0z x1z a0z (1 : Int32))) ∧ (¬ v19 = 0 → (wp_X7_moveAt_b20 t0 m9 post S18 a0z x1z a0z (0 : Int32)))) SA x1z (0 : Int32) v15)
set_option maxHeartbeats 4000000 in
set_option maxRecDepth 100000 in
theorem c_X7_moveAt (l : Launch) (g : qs_G) (sz : Nat) (SA : qs_S) (a0z : Nat) (x1z : Int32) {post : Int32 → qs_S → Prop} (h : wp_X7_moveAt g.2.2.2.2.2.2.1 g.2.2.2.2.2.2.2 post SA a0z x1z) : Met l yX7_moveAt wsX7_moveAt ({ frames := 1, cells := 0, slots := 0, locals := 22 } : Room) (qs_Pc g sz SA [.ref a0z, .int x1z]) (qs_Qi g (qs_F g SA sz) post) 0 0 (qs_F g SA sz) := by
  refine Met.ofW (cc := cX7_moveAt) (maxL := 2) (ret := (some .int)) (by decide +kernel) rfl ?_
  intro p e s m args below meth c s₁ B hml hv
  obtain ⟨rfl, hsz, hG⟩ := qs_Gd.start hv
  subst hsz
  have hx := B.exec
  have hb := B.bytes
  have hr := B.returns
  have hts := atoms_spec (ws := wsX7_moveAt) B.pre
  have hown : s.vm.findClass RX7 = some m.cls := findClass_of_methodNamed B.named
  have hlk := B.notSynchronized
  have in7 : ∀ w ∈ u_ws RX7 TX7 35, w ∈ wsX7_moveAt := fun w h => List.mem_cons_of_mem _ (List.mem_append_right _ (h))
  have b40 : ∀ (S : qs_S) (s0 : Int32) (H : Heap) (locs : List Loc) (ls : Array Slot), wp_X7_moveAt_b40 g.2.2.2.2.2.2.1 g.2.2.2.2.2.2.2 post S s0 → qs_Gd g (qs_F g SA s.heap.size) s S H locs → lv_has ls 2 [] → W p l e (headSpec wsX7_moveAt ({ frames := 1, cells := 0, slots := 0, locals := 22 } : Room)).room s m (([.ref a0z, .int x1z] : List Value)).toArray below meth c H locs 0 0 (MQ below (qs_Qi g (qs_F g SA s.heap.size) post) (([.ref a0z, .int x1z] : List Value)).toArray s 0 0 (qs_F g SA s.heap.size)) (F0 m 40 ls [.int s0]) := by
    intro S s0 H locs ls h hG hl
    unfold wp_X7_moveAt_b40 at h
    exact qe_i hx hb hr hlk hG h (Nat.le_refl _) (Nat.le_refl _) dX7_moveAt_40
  have b20 : ∀ (S : qs_S) (a0 : Nat) (x1 : Int32) (r0 : Nat) (s1 : Int32) (H : Heap) (locs : List Loc) (ls : Array Slot), wp_X7_moveAt_b20 g.2.2.2.2.2.2.1 g.2.2.2.2.2.2.2 post S a0 x1 r0 s1 → qs_Gd g (qs_F g SA s.heap.size) s S H locs → lv_has ls 2 [(0, .ref a0), (1, .int x1)] → W p l e (headSpec wsX7_moveAt ({ frames := 1, cells := 0, slots := 0, locals := 22 } : Room)).room s m (([.ref a0z, .int x1z] : List Value)).toArray below meth c H locs 0 0 (MQ below (qs_Qi g (qs_F g SA s.heap.size) post) (([.ref a0z, .int x1z] : List Value)).toArray s 0 0 (qs_F g SA s.heap.size)) (F0 m 20 ls [.int s1, .ref r0]) := by
    intro S a0 x1 r0 s1 H locs ls h hG hl
    unfold wp_X7_moveAt_b20 at h
    obtain ⟨⟨hL1, fK2⟩, h⟩ := h
    refine qr_putI (C := RX7) (T := TX7) (N := 35) (ci := 7) hx hb hts in7 tyX7 tyX7_ok nmX7 hown hG hL1 fK2 (by decide) rfl 0 (by decide) rfl (hts (.fieldLink RX7 95 "QuayMeshModel" "thrown" "I") (List.mem_of_getElem? (i := 2) rfl)) (fun _ h9 => h9) rfl (x := s1) (tyX7_ok 0 (by decide)) rfl rfl dX7_moveAt_20 (fun H locs hG => ?_)
    refine lv_aload_n hx hb dX7_moveAt_23 rfl (lv_at hl 0 rfl) ?_
    obtain ⟨⟨hL3, fK4⟩, h⟩ := h
    refine qr_get (C := RX7) (T := TX7) (N := 35) (ci := 7) hx hb hts in7 hown hG hL3 fK4 (by decide) rfl 0 (by decide) rfl (hts (.fieldLink RX7 95 "QuayMeshModel" "thrown" "I") (List.mem_of_getElem? (i := 2) rfl)) (fun _ h9 => h9) (v := .int (qs_I (qs_wI S 0 r0 s1) 0 a0)) rfl dX7_moveAt_24 ?_
    refine lv_topi (fun v5 ev5 => ?_)
    have h := h v5 ev5
    refine lv_if_le (tgt := 34) hx hb dX7_moveAt_27 (by decide) (fun c6 => ?_) (fun c6 => ?_)
    · have h := h.1 c6
      refine lv_aload_n hx hb dX7_moveAt_34 rfl (lv_at hl 0 rfl) ?_
      obtain ⟨q7, eq7, h⟩ := h
      refine qr_get (C := RX7) (T := TX7) (N := 35) (ci := 7) hx hb hts in7 hown hG hL3 fK4 (by decide) rfl 28 (by decide) rfl (hts (.fieldLink RX7 74 "QuayMeshModel" "log" "[I") (List.mem_of_getElem? (i := 3) rfl)) (fun _ h9 => h9) (v := .ref q7) (qs_rf eq7) dX7_moveAt_35 ?_
      refine lv_iload_n hx hb dX7_moveAt_38 rfl (lv_at hl 1 rfl) ?_
      obtain ⟨⟨hL8, fK9⟩, h⟩ := h
      obtain ⟨hi10, h⟩ := h
      refine qr_iald hx hb hG hL8 fK9 hi10 rfl dX7_moveAt_39 ?_
      refine lv_topi (fun v11 ev11 => ?_)
      have h := h v11 ev11
      exact b40 (qs_wI S 0 r0 s1) v11 _ _ ls h hG (lv_sub hl [] rfl)
    · have h := h.2 c6
      refine lv_iconst (v := (0 : Int32)) hx hb dX7_moveAt_30 (by decide +kernel) ?_
      refine lv_goto (tgt := 40) hx hb dX7_moveAt_31 (by decide) ?_
      exact b40 (qs_wI S 0 r0 s1) (0 : Int32) _ _ ls h hG (lv_sub hl [] rfl)
  have hl := lv_entry ([.ref a0z, .int x1z]) (n := 2) (Nat.le_of_ble_eq_true rfl)
  rw [lg_entry_eq]
  generalize (lg_sl ([.ref a0z, .int x1z]) ++ List.replicate (2 - (lg_sl ([.ref a0z, .int x1z])).length) Slot.unset).toArray = ls at hl ⊢
  have hl : lv_has ls 2 [(0, .ref a0z), (1, .int x1z)] := hl
  unfold wp_X7_moveAt at h
  refine lv_aload_n hx hb dX7_moveAt_0 rfl (lv_at hl 0 rfl) ?_
  refine lv_iload_n hx hb dX7_moveAt_1 rfl (lv_at hl 1 rfl) ?_
  refine lv_iconst (v := (0 : Int32)) hx hb dX7_moveAt_2 (by decide +kernel) ?_
  refine lv_aload_n hx hb dX7_moveAt_3 rfl (lv_at hl 0 rfl) ?_
  obtain ⟨⟨hL12, fK13⟩, h⟩ := h
  refine qr_get (C := RX7) (T := TX7) (N := 35) (ci := 7) hx hb hts in7 hown hG hL12 fK13 (by decide) rfl 27 (by decide) rfl (hts (.fieldLink RX7 143 "QuayMeshModel" "logged" "I") (List.mem_of_getElem? (i := 1) rfl)) (fun _ h9 => h9) (v := .int (qs_I SA 27 a0z)) rfl dX7_moveAt_4 ?_
  refine lv_topi (fun v14 ev14 => ?_)
  have h := h v14 ev14
  refine lv_iconst (v := (1 : Int32)) hx hb dX7_moveAt_7 (by decide +kernel) ?_
  refine lv_isub hx hb dX7_moveAt_8 ?_
  refine lv_topi (fun v15 ev15 => ?_)
  have h := h v15 ev15
  refine qc_i hG (va_runS (As := [.int x1z, .int (0 : Int32), .int v15]) (rest := [.ref a0z]) ⟨hx, hb, hml, hown, hts⟩ (c_X7_in l g _ SA x1z (0 : Int32) v15 h) (va_cwS 3 hts gX7_moveAt_X7_in rfl rfl rfl (by decide +kernel) ⟨(Nat.le_of_ble_eq_true rfl), (Nat.le_of_ble_eq_true rfl)⟩) ⟨qs_Pc.blind _ _ _ _, hG.pre _⟩ rfl rfl hl.1 rfl (lv_room (Nat.le_of_ble_eq_true rfl)) dX7_moveAt_9 ⟨Nat.zero_le _, Nat.zero_le _⟩) (fun v19 S18 H locs h hG => ?_)
  refine lv_if_eq (tgt := 19) hx hb dX7_moveAt_12 (by decide) (fun c20 => ?_) (fun c20 => ?_)
  · have h := h.1 c20
    refine lv_iconst (v := (1 : Int32)) hx hb dX7_moveAt_19 (by decide +kernel) ?_
    exact b20 S18 a0z x1z a0z (1 : Int32) _ _ ls h hG (lv_sub hl [0, 1] rfl)
  · have h := h.2 c20
    refine lv_iconst (v := (0 : Int32)) hx hb dX7_moveAt_15 (by decide +kernel) ?_
    refine lv_goto (tgt := 20) hx hb dX7_moveAt_16 (by decide) ?_
    exact b20 S18 a0z x1z a0z (0 : Int32) _ _ ls h hG (lv_sub hl [0, 1] rfl)
def wp_X7_unheard (t0 m9 : Nat) (post : Int32 → qs_S → Prop) (SA : qs_S) (a0z : Nat) : Prop := (a0z ∈ qs_L SA ∧ qs_K SA a0z = 7) ∧ (∀ v3 : Int32, v3 = qs_I (qs_wI SA 0 a0z (0 : Int32)) 25 a0z → ∀ v4 : Int32, v4 = qs_I (qs_wI SA 0 a0z (0 : Int32)) 27 a0z → ∀ v5 : Int32, v5 = v3 - v4 → post v5 (qs_wI SA 0 a0z (0 : Int32)))
set_option maxHeartbeats 4000000 in
set_option maxRecDepth 100000 in
theorem c_X7_unheard (l : Launch) (g : qs_G) (sz : Nat) (SA : qs_S) (a0z : Nat) {post : Int32 → qs_S → Prop} (h : wp_X7_unheard g.2.2.2.2.2.2.1 g.2.2.2.2.2.2.2 post SA a0z) : Met l yX7_unheard wsX7_unheard ({ frames := 0, cells := 0, slots := 0, locals := 0 } : Room) (qs_Pc g sz SA [.ref a0z]) (qs_Qi g (qs_F g SA sz) post) 0 0 (qs_F g SA sz) := by
  refine Met.ofW (cc := cX7_unheard) (maxL := 1) (ret := (some .int)) (by decide +kernel) rfl ?_
  intro p e s m args below meth c s₁ B hml hv
  obtain ⟨rfl, hsz, hG⟩ := qs_Gd.start hv
  subst hsz
  have hx := B.exec
  have hb := B.bytes
  have hr := B.returns
  have hts := atoms_spec (ws := wsX7_unheard) B.pre
  have hown : s.vm.findClass RX7 = some m.cls := findClass_of_methodNamed B.named
  have hlk := B.notSynchronized
  have in7 : ∀ w ∈ u_ws RX7 TX7 35, w ∈ wsX7_unheard := fun w h => List.mem_cons_of_mem _ (List.mem_append_right _ (h))
  have hl := lv_entry ([.ref a0z]) (n := 1) (Nat.le_of_ble_eq_true rfl)
  rw [lg_entry_eq]
  generalize (lg_sl ([.ref a0z]) ++ List.replicate (1 - (lg_sl ([.ref a0z])).length) Slot.unset).toArray = ls at hl ⊢
  have hl : lv_has ls 1 [(0, .ref a0z)] := hl
  unfold wp_X7_unheard at h
  refine lv_aload_n hx hb dX7_unheard_0 rfl (lv_at hl 0 rfl) ?_
  refine lv_iconst (v := (0 : Int32)) hx hb dX7_unheard_1 (by decide +kernel) ?_
  obtain ⟨⟨hL1, fK2⟩, h⟩ := h
  refine qr_putI (C := RX7) (T := TX7) (N := 35) (ci := 7) hx hb hts in7 tyX7 tyX7_ok nmX7 hown hG hL1 fK2 (by decide) rfl 0 (by decide) rfl (hts (.fieldLink RX7 95 "QuayMeshModel" "thrown" "I") (List.mem_of_getElem? (i := 1) rfl)) (fun _ h9 => h9) rfl (x := (0 : Int32)) (tyX7_ok 0 (by decide)) rfl rfl dX7_unheard_2 (fun H locs hG => ?_)
  refine lv_aload_n hx hb dX7_unheard_5 rfl (lv_at hl 0 rfl) ?_
  refine qr_get (C := RX7) (T := TX7) (N := 35) (ci := 7) hx hb hts in7 hown hG hL1 fK2 (by decide) rfl 25 (by decide) rfl (hts (.fieldLink RX7 146 "QuayMeshModel" "moves" "I") (List.mem_of_getElem? (i := 2) rfl)) (fun _ h9 => h9) (v := .int (qs_I (qs_wI SA 0 a0z (0 : Int32)) 25 a0z)) rfl dX7_unheard_6 ?_
  refine lv_topi (fun v3 ev3 => ?_)
  have h := h v3 ev3
  refine lv_aload_n hx hb dX7_unheard_9 rfl (lv_at hl 0 rfl) ?_
  refine qr_get (C := RX7) (T := TX7) (N := 35) (ci := 7) hx hb hts in7 hown hG hL1 fK2 (by decide) rfl 27 (by decide) rfl (hts (.fieldLink RX7 143 "QuayMeshModel" "logged" "I") (List.mem_of_getElem? (i := 3) rfl)) (fun _ h9 => h9) (v := .int (qs_I (qs_wI SA 0 a0z (0 : Int32)) 27 a0z)) rfl dX7_unheard_10 ?_
  refine lv_topi (fun v4 ev4 => ?_)
  have h := h v4 ev4
  refine lv_isub hx hb dX7_unheard_13 ?_
  refine lv_topi (fun v5 ev5 => ?_)
  have h := h v5 ev5
  exact qe_i hx hb hr hlk hG h (Nat.le_refl _) (Nat.le_refl _) dX7_unheard_14

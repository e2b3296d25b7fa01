def wp_X6_leastBusyFor_b58 (t0 m9 : Nat) (mc ms : Nat) (post : Option Nat → qs_S → Prop) (px : String → qs_S → Prop) (K4 : Nat → Nat → qs_S → Nat → Int32 → Option Nat → Int32 → Prop) (k n : Nat) (S : qs_S) (a0 : Nat) (x1 : Int32) (o2 : Option Nat) (x3 : Int32) : Prop := ∀ v1 : Int32, v1 = x3 + 1 → K4 k n S a0 x1 o2 v1
def wp_X6_leastBusyFor_b55 (t0 m9 : Nat) (mc ms : Nat) (post : Option Nat → qs_S → Prop) (px : String → qs_S → Prop) (K4 : Nat → Nat → qs_S → Nat → Int32 → Option Nat → Int32 → Prop) (k n : Nat) (S : qs_S) (a0 : Nat) (x1 : Int32) (x3 : Int32) (a4 : Nat) : Prop := wp_X6_leastBusyFor_b58 t0 m9 mc ms post px K4 k n S a0 x1 (some a4) x3
def wp_X6_leastBusyFor_c4 (t0 m9 : Nat) (mc ms : Nat) (post : Option Nat → qs_S → Prop) (px : String → qs_S → Prop) (K4 : Nat → Nat → qs_S → Nat → Int32 → Option Nat → Int32 → Prop) (k n : Nat) (S : qs_S) (a0 : Nat) (x1 : Int32) (o2 : Option Nat) (x3 : Int32) : Prop := ((8 : Int32) ≤ x3 → ((o2 = none → (post none S)) ∧ (∀ q3 : Nat, o2 = some q3 → (post (some q3) S)))) ∧ (¬ (8 : Int32) ≤ x3 → ((a0 ∈ qs_L S ∧ qs_K S a0 = 6) ∧ (∃ mck4 msk4 : Nat, (k + mck4 ≤ mc ∧ n + msk4 ≤ ms) ∧ (wp_X6_workerNumbered t0 m9 mck4 msk4 (fun (o9 : Option Nat) (S8 : qs_S) => ∃ q10 : Nat, o9 = some q10 ∧ (wp_X6_isFor t0 m9 (fun (v14 : Int32) (S13 : qs_S) => (v14 = 0 → (wp_X6_leastBusyFor_b58 t0 m9 mc ms post px K4 (k + mck4) (n + msk4) S13 a0 x1 o2 x3)) ∧ (¬ v14 = 0 → ((q10 ∈ qs_L S13 ∧ (qs_K S13 q10 = 2 ∨ qs_K S13 q10 = 5)) ∧ (∀ v18 : Int32, v18 = qs_I S13 5 q10 → (¬ v18 = 0 → (wp_X6_leastBusyFor_b58 t0 m9 mc ms post px K4 (k + mck4) (n + msk4) S13 a0 x1 o2 x3)) ∧ (v18 = 0 → ((o2 = none → (wp_X6_leastBusyFor_b55 t0 m9 mc ms post px K4 (k + mck4) (n + msk4) S13 a0 x1 x3 q10)) ∧ (∀ q20 : Nat, o2 = some q20 → (∃ q21 : Nat, qs_R S13 1 q10 = some q21 ∧ ((q21 ∈ qs_L S13 ∧ qs_K S13 q21 = 0) ∧ (wp_Jx4a65c_size_8abf5 t0 m9 (fun (v27 : Int32) (S26 : qs_S) => (q20 ∈ qs_L S26 ∧ (qs_K S26 q20 = 2 ∨ qs_K S26 q20 = 5)) ∧ (∃ q30 : Nat, qs_R S26 1 q20 = some q30 ∧ ((q30 ∈ qs_L S26 ∧ qs_K S26 q30 = 0) ∧ (wp_Jx4a65c_size_8abf5 t0 m9 (fun (v36 : Int32) (S35 : qs_S) => (v36 ≤ v27 → (wp_X6_leastBusyFor_b58 t0 m9 mc ms post px K4 (k + mck4) (n + msk4) S35 a0 x1 (some q20) x3)) ∧ (¬ v36 ≤ v27 → (wp_X6_leastBusyFor_b55 t0 m9 mc ms post px K4 (k + mck4) (n + msk4) S35 a0 x1 x3 q10))) S26 q30)))) S13 q21)))))))))) S8 x1 x3)) px S a0 x3))))
def wp_X6_leastBusyFor_b4 (t0 m9 : Nat) (mc ms : Nat) (post : Option Nat → qs_S → Prop) (px : String → qs_S → Prop) : Nat → Nat → Nat → qs_S → Nat → Int32 → Option Nat → Int32 → Prop
  | 0 => fun _ _ _ _ _ _ _ => False
  | n9 + 1 => wp_X6_leastBusyFor_c4 t0 m9 mc ms post px (wp_X6_leastBusyFor_b4 t0 m9 mc ms post px n9)
def wp_X6_leastBusyFor (t0 m9 : Nat) (mc ms : Nat) (post : Option Nat → qs_S → Prop) (px : String → qs_S → Prop) (SA : qs_S) (a0z : Nat) (x1z : Int32) : Prop := ∃ n38 : Nat, wp_X6_leastBusyFor_b4 t0 m9 mc ms post px n38 0 0 SA a0z x1z none (0 : Int32)
set_option maxHeartbeats 4000000 in
set_option maxRecDepth 100000 in
theorem c_X6_leastBusyFor (l : Launch) (hl9 : l.stackTraces = false) (g : qs_G) (sz : Nat) (SA : qs_S) (a0z : Nat) (x1z : Int32) {mc ms : Nat} {post : Option Nat → qs_S → Prop} {px : String → qs_S → Prop} (h : wp_X6_leastBusyFor g.2.2.2.2.2.2.1 g.2.2.2.2.2.2.2 mc ms post px SA a0z x1z) : vx_Met l yX6_leastBusyFor wsX6_leastBusyFor ({ frames := 9, cells := mc, slots := ms, locals := 153 } : Room) (qs_Pc g sz SA [.ref a0z, .int x1z]) (qs_Qq g (qs_F g SA sz) post) (qs_X g (qs_F g SA sz) px) mc ms (qs_F g SA sz) := by
  refine vx_ofW (cc := cX6_leastBusyFor) (maxL := 5) (ret := (some (.object "QuayMesh$Worker"))) (by decide +kernel) rfl ?_
  intro p e s m args below meth c s₁ B hml hnt hv
  obtain ⟨rfl, hsz, hG⟩ := qs_Gd.start hv
  subst hsz
  have hx := B.exec
  have hb := B.bytes
  have hr := B.returns
  have hts := atoms_spec (ws := wsX6_leastBusyFor) B.pre
  have hown : s.vm.findClass RX6 = some m.cls := findClass_of_methodNamed B.named
  have hlk := B.notSynchronized
  have in0 : ∀ w ∈ u_ws RJx4a65c TJx4a65c 3, w ∈ wsX6_leastBusyFor := fun w h => List.mem_cons_of_mem _ (List.mem_append_left _ (List.mem_append_right _ (h)))
  have in2 : ∀ w ∈ u_ws RX1 TX1 8, w ∈ wsX6_leastBusyFor := fun w h => List.mem_cons_of_mem _ (List.mem_append_left _ (List.mem_append_left _ (List.mem_append_left _ (List.mem_append_left _ (List.mem_append_right _ (h))))))
  have in5 : ∀ w ∈ u_ws RX4 TX4 8, w ∈ wsX6_leastBusyFor := fun w h => List.mem_cons_of_mem _ (List.mem_append_left _ (List.mem_append_left _ (List.mem_append_left _ (List.mem_append_right _ (h)))))
  have in6 : ∀ w ∈ u_ws RX6 TX6 8, w ∈ wsX6_leastBusyFor := fun w h => List.mem_cons_of_mem _ (List.mem_append_left _ (List.mem_append_left _ (List.mem_append_right _ (h))))
  have hkc : 0 ≤ mc := Nat.zero_le _
  have hks : 0 ≤ ms := Nat.zero_le _
  have hmR : mc ≤ (headSpec wsX6_leastBusyFor ({ frames := 9, cells := mc, slots := ms, locals := 153 } : Room)).room.cells := Nat.le_refl _
  have hsR : ms ≤ (headSpec wsX6_leastBusyFor ({ frames := 9, cells := mc, slots := ms, locals := 153 } : Room)).room.slots := Nat.le_refl _
  have b58 : ∀ (K4 : Nat → Nat → qs_S → Nat → Int32 → Option Nat → Int32 → Prop), (∀ (S : qs_S) (a0 : Nat) (x1 : Int32) (o2 : Option Nat) (x3 : Int32) (H : Heap) (locs : List Loc) (k n : Nat) (ls : Array Slot), k ≤ mc → n ≤ ms → K4 k n S a0 x1 o2 x3 → qs_Gd g (qs_F g SA s.heap.size) s S H locs → lv_has ls 5 [(0, .ref a0), (1, .int x1), (2, va_rf o2), (3, .int x3)] → W p l e (headSpec wsX6_leastBusyFor ({ frames := 9, cells := mc, slots := ms, locals := 153 } : Room)).room s m (([.ref a0z, .int x1z] : List Value)).toArray below meth c H locs k n (vx_MQ below (qs_Qq g (qs_F g SA s.heap.size) post) (qs_X g (qs_F g SA s.heap.size) px) (([.ref a0z, .int x1z] : List Value)).toArray s mc ms (qs_F g SA s.heap.size)) (F0 m 4 ls [])) → ∀ (S : qs_S) (a0 : Nat) (x1 : Int32) (o2 : Option Nat) (x3 : Int32) (H : Heap) (locs : List Loc) (k n : Nat) (ls : Array Slot), k ≤ mc → n ≤ ms → wp_X6_leastBusyFor_b58 g.2.2.2.2.2.2.1 g.2.2.2.2.2.2.2 mc ms post px K4 k n S a0 x1 o2 x3 → qs_Gd g (qs_F g SA s.heap.size) s S H locs → lv_has ls 5 [(0, .ref a0), (1, .int x1), (2, va_rf o2), (3, .int x3)] → W p l e (headSpec wsX6_leastBusyFor ({ frames := 9, cells := mc, slots := ms, locals := 153 } : Room)).room s m (([.ref a0z, .int x1z] : List Value)).toArray below meth c H locs k n (vx_MQ below (qs_Qq g (qs_F g SA s.heap.size) post) (qs_X g (qs_F g SA s.heap.size) px) (([.ref a0z, .int x1z] : List Value)).toArray s mc ms (qs_F g SA s.heap.size)) (F0 m 58 ls []) := by
    intro K4 hK4 S a0 x1 o2 x3 H locs k n ls hkc hks h hG hl
    unfold wp_X6_leastBusyFor_b58 at h
    obtain ⟨v1, ev1⟩ : ∃ y : Int32, y = x3 + 1 := ⟨_, rfl⟩
    have h := h v1 ev1
    refine lv_iinc (v := v1) (lv' := [(3, .int v1), (0, .ref a0), (1, .int x1), (2, va_rf o2)]) hx hb dX6_leastBusyFor_58 hl (k := 3) rfl (by rw [ev1]; rfl) (by decide) (by cases o2 <;> rfl) (fun ls hl => ?_)
    refine lv_goto (tgt := 4) hx hb dX6_leastBusyFor_61 (by decide) ?_
    exact hK4 S a0 x1 o2 v1 _ _ k n ls hkc hks h hG (lv_sub hl [1, 2, 3, 0] rfl)
  have b55 : ∀ (K4 : Nat → Nat → qs_S → Nat → Int32 → Option Nat → Int32 → Prop), (∀ (S : qs_S) (a0 : Nat) (x1 : Int32) (o2 : Option Nat) (x3 : Int32) (H : Heap) (locs : List Loc) (k n : Nat) (ls : Array Slot), k ≤ mc → n ≤ ms → K4 k n S a0 x1 o2 x3 → qs_Gd g (qs_F g SA s.heap.size) s S H locs → lv_has ls 5 [(0, .ref a0), (1, .int x1), (2, va_rf o2), (3, .int x3)] → W p l e (headSpec wsX6_leastBusyFor ({ frames := 9, cells := mc, slots := ms, locals := 153 } : Room)).room s m (([.ref a0z, .int x1z] : List Value)).toArray below meth c H locs k n (vx_MQ below (qs_Qq g (qs_F g SA s.heap.size) post) (qs_X g (qs_F g SA s.heap.size) px) (([.ref a0z, .int x1z] : List Value)).toArray s mc ms (qs_F g SA s.heap.size)) (F0 m 4 ls [])) → ∀ (S : qs_S) (a0 : Nat) (x1 : Int32) (x3 : Int32) (a4 : Nat) (H : Heap) (locs : List Loc) (k n : Nat) (ls : Array Slot), k ≤ mc → n ≤ ms → wp_X6_leastBusyFor_b55 g.2.2.2.2.2.2.1 g.2.2.2.2.2.2.2 mc ms post px K4 k n S a0 x1 x3 a4 → qs_Gd g (qs_F g SA s.heap.size) s S H locs → lv_has ls 5 [(0, .ref a0), (1, .int x1), (3, .int x3), (4, .ref a4)] → W p l e (headSpec wsX6_leastBusyFor ({ frames := 9, cells := mc, slots := ms, locals := 153 } : Room)).room s m (([.ref a0z, .int x1z] : List Value)).toArray below meth c H locs k n (vx_MQ below (qs_Qq g (qs_F g SA s.heap.size) post) (qs_X g (qs_F g SA s.heap.size) px) (([.ref a0z, .int x1z] : List Value)).toArray s mc ms (qs_F g SA s.heap.size)) (F0 m 55 ls []) := by
    intro K4 hK4 S a0 x1 x3 a4 H locs k n ls hkc hks h hG hl
    unfold wp_X6_leastBusyFor_b55 at h
    refine lv_aload hx hb dX6_leastBusyFor_55 (lv_at hl 3 rfl) ?_
    refine lv_astore_n (lv' := [(2, .ref a4), (0, .ref a0), (1, .int x1), (3, .int x3), (4, .ref a4)]) hx hb dX6_leastBusyFor_57 rfl hl (by decide) rfl (fun ls hl => ?_)
    exact b58 K4 hK4 S a0 x1 (some a4) x3 _ _ k n ls hkc hks h hG (lv_sub hl [1, 2, 0, 3] rfl)
  have c4 : ∀ (K4 : Nat → Nat → qs_S → Nat → Int32 → Option Nat → Int32 → Prop), (∀ (S : qs_S) (a0 : Nat) (x1 : Int32) (o2 : Option Nat) (x3 : Int32) (H : Heap) (locs : List Loc) (k n : Nat) (ls : Array Slot), k ≤ mc → n ≤ ms → K4 k n S a0 x1 o2 x3 → qs_Gd g (qs_F g SA s.heap.size) s S H locs → lv_has ls 5 [(0, .ref a0), (1, .int x1), (2, va_rf o2), (3, .int x3)] → W p l e (headSpec wsX6_leastBusyFor ({ frames := 9, cells := mc, slots := ms, locals := 153 } : Room)).room s m (([.ref a0z, .int x1z] : List Value)).toArray below meth c H locs k n (vx_MQ below (qs_Qq g (qs_F g SA s.heap.size) post) (qs_X g (qs_F g SA s.heap.size) px) (([.ref a0z, .int x1z] : List Value)).toArray s mc ms (qs_F g SA s.heap.size)) (F0 m 4 ls [])) → ∀ (S : qs_S) (a0 : Nat) (x1 : Int32) (o2 : Option Nat) (x3 : Int32) (H : Heap) (locs : List Loc) (k n : Nat) (ls : Array Slot), k ≤ mc → n ≤ ms → wp_X6_leastBusyFor_c4 g.2.2.2.2.2.2.1 g.2.2.2.2.2.2.2 mc ms post px K4 k n S a0 x1 o2 x3 → qs_Gd g (qs_F g SA s.heap.size) s S H locs → lv_has ls 5 [(0, .ref a0), (1, .int x1), (2, va_rf o2), (3, .int x3)] → W p l e (headSpec wsX6_leastBusyFor ({ frames := 9, cells := mc, slots := ms, locals := 153 } : Room)).room s m (([.ref a0z, .int x1z] : List Value)).toArray below meth c H locs k n (vx_MQ below (qs_Qq g (qs_F g SA s.heap.size) post) (qs_X g (qs_F g SA s.heap.size) px) (([.ref a0z, .int x1z] : List Value)).toArray s mc ms (qs_F g SA s.heap.size)) (F0 m 4 ls []) := by
    intro K4 hK4 S a0 x1 o2 x3 H locs k n ls hkc hks h hG hl
    unfold wp_X6_leastBusyFor_c4 at h
    refine lv_iload_n hx hb dX6_leastBusyFor_4 rfl (lv_at hl 3 rfl) ?_
    refine lv_bipush (v := (8 : Int32)) hx hb dX6_leastBusyFor_5 (by decide +kernel) ?_
    refine lv_icmp_ge (tgt := 64) hx hb dX6_leastBusyFor_7 (by decide) (fun c2 => ?_) (fun c2 => ?_)
    · have h := h.1 c2
      rcases o2 with _ | q3
      · have h := h.1 rfl
        have hl : lv_has ls 5 [(0, .ref a0), (1, .int x1), (2, .null), (3, .int x3)] := hl
        refine lv_aload_nN hx hb dX6_leastBusyFor_64 rfl (lv_at hl 2 rfl) ?_
        refine vx_ret ?_
        exact qe_q (o := none) hx hb hr hlk rfl (Or.inl ⟨_, rfl⟩) hG h hkc hks dX6_leastBusyFor_65
      · have h := h.2 q3 rfl
        have hl : lv_has ls 5 [(0, .ref a0), (1, .int x1), (2, .ref q3), (3, .int x3)] := hl
        refine lv_aload_n hx hb dX6_leastBusyFor_64 rfl (lv_at hl 2 rfl) ?_
        refine vx_ret ?_
        exact qe_q (o := (some q3)) hx hb hr hlk rfl (Or.inl ⟨_, rfl⟩) hG h hkc hks dX6_leastBusyFor_65
    · have h := h.2 c2
      refine lv_aload_n hx hb dX6_leastBusyFor_10 rfl (lv_at hl 0 rfl) ?_
      refine lv_iload_n hx hb dX6_leastBusyFor_11 rfl (lv_at hl 3 rfl) ?_
      obtain ⟨⟨hL6, fK7⟩, h⟩ := h
      obtain ⟨mck4, msk4, ⟨hs5c, hs5s⟩, h⟩ := h
      refine qx_q hG (vx_runV (As := [.int x3]) (rest := []) ⟨hx, hb, hml, hown, hts⟩ (c_X6_workerNumbered l hl9 g _ S a0 x3 h) (cwV 1 hts gX6_leastBusyFor_X6_workerNumbered rfl rfl rfl (by decide +kernel) ⟨(Nat.le_of_ble_eq_true rfl), (Nat.le_of_ble_eq_true rfl)⟩) ⟨qs_Pc.blind _ _ _ _, hG.recv hL6 fK7 (by decide) rfl, hG.pre _⟩ rfl rfl hl.1 rfl (lv_room (Nat.le_of_ble_eq_true rfl)) dX6_leastBusyFor_12 ⟨Nat.le_trans hs5c hmR, Nat.le_trans hs5s hsR⟩) (fun E S1 H locs ce q9 hp hG h1 h2 h3 => qx_out hnt hlk hG hp h1 h2 h3 hs5c hs5s) (fun o9 S8 H locs h hG => ?_)
      have hkc := hs5c
      have hks := hs5s
      obtain ⟨q10, rfl, h⟩ := h
      refine lv_astore (lv' := [(4, .ref q10), (0, .ref a0), (1, .int x1), (2, va_rf o2), (3, .int x3)]) hx hb dX6_leastBusyFor_15 hl (by decide) rfl (fun ls hl => ?_)
      refine lv_iload_n hx hb dX6_leastBusyFor_17 rfl (lv_at hl 2 rfl) ?_
      refine lv_iload_n hx hb dX6_leastBusyFor_18 rfl (lv_at hl 4 rfl) ?_
      refine qc_i hG (va_runS (As := [.int x1, .int x3]) (rest := []) ⟨hx, hb, hml, hown, hts⟩ (c_X6_isFor l g _ S8 x1 x3 h) (va_cwS 2 hts gX6_leastBusyFor_X6_isFor rfl rfl rfl (by decide +kernel) ⟨(Nat.le_of_ble_eq_true rfl), (Nat.le_of_ble_eq_true rfl)⟩) ⟨qs_Pc.blind _ _ _ _, hG.pre _⟩ rfl rfl hl.1 rfl (lv_room (Nat.le_of_ble_eq_true rfl)) dX6_leastBusyFor_19 ⟨Nat.le_trans hkc hmR, Nat.le_trans hks hsR⟩) (fun v14 S13 H locs h hG => ?_)
      refine lv_if_eq (tgt := 58) hx hb dX6_leastBusyFor_22 (by decide) (fun c15 => ?_) (fun c15 => ?_)
      · have h := h.1 c15
        exact b58 K4 hK4 S13 a0 x1 o2 x3 _ _ (k + mck4) (n + msk4) ls hkc hks h hG (lv_sub hl [1, 2, 3, 4] rfl)
      · have h := h.2 c15
        refine lv_aload hx hb dX6_leastBusyFor_25 (lv_at hl 0 rfl) ?_
        obtain ⟨⟨hL16, fK17⟩, h⟩ := h
        refine qr_getW hx hb hts in2 in5 hown hG hL16 fK17 5 (by decide) rfl ⟨rfl, rfl⟩ (hts (.fieldLink RX6 242 "QuayMesh$Worker" "isSilent" "Z") (List.mem_of_getElem? (i := 1) rfl)) (fun _ h9 => h9) (fun _ h9 => h9) (v := .int (qs_I S13 5 q10)) rfl dX6_leastBusyFor_27 ?_
        refine lv_topi (fun v18 ev18 => ?_)
        have h := h v18 ev18
        refine lv_if_ne (tgt := 58) hx hb dX6_leastBusyFor_30 (by decide) (fun c19 => ?_) (fun c19 => ?_)
        · have h := h.1 c19
          exact b58 K4 hK4 S13 a0 x1 o2 x3 _ _ (k + mck4) (n + msk4) ls hkc hks h hG (lv_sub hl [1, 2, 3, 4] rfl)
        · have h := h.2 c19
          rcases o2 with _ | q20
          · have h := h.1 rfl
            have hl : lv_has ls 5 [(4, .ref q10), (0, .ref a0), (1, .int x1), (2, .null), (3, .int x3)] := hl
            refine lv_aload_nN hx hb dX6_leastBusyFor_33 rfl (lv_at hl 3 rfl) ?_
            refine lv_ifnullN (tgt := 55) hx hb dX6_leastBusyFor_34 (by decide) ?_
            exact b55 K4 hK4 S13 a0 x1 x3 q10 _ _ (k + mck4) (n + msk4) ls hkc hks h hG (lv_sub hl [1, 2, 4, 0] rfl)
          · have h := h.2 q20 rfl
            have hl : lv_has ls 5 [(4, .ref q10), (0, .ref a0), (1, .int x1), (2, .ref q20), (3, .int x3)] := hl
            refine lv_aload_n hx hb dX6_leastBusyFor_33 rfl (lv_at hl 3 rfl) ?_
            refine lv_ifnull hx hb dX6_leastBusyFor_34 ?_
            refine lv_aload hx hb dX6_leastBusyFor_37 (lv_at hl 0 rfl) ?_
            obtain ⟨q21, eq21, h⟩ := h
            refine qr_getW hx hb hts in2 in5 hown hG hL16 fK17 1 (by decide) rfl ⟨rfl, rfl⟩ (hts (.fieldLink RX6 146 "QuayMesh$Worker" "waiting" "Ljava/util/ArrayList;") (List.mem_of_getElem? (i := 2) rfl)) (fun _ h9 => h9) (fun _ h9 => h9) (v := .ref q21) (qs_rf eq21) dX6_leastBusyFor_39 ?_
            obtain ⟨⟨hL24, fK25⟩, h⟩ := h
            refine qc_i hG (va_runV (As := []) (rest := []) ⟨hx, hb, hml, hown, hts⟩ (c_Jx4a65c_size_8abf5 l g _ S13 q21 h) (cwV 0 hts gX6_leastBusyFor_Jx4a65c_size_8abf5 rfl rfl rfl (by decide +kernel) ⟨(Nat.le_of_ble_eq_true rfl), (Nat.le_of_ble_eq_true rfl)⟩) ⟨qs_Pc.blind _ _ _ _, hG.recv hL24 fK25 (by decide) rfl, hG.pre _⟩ rfl rfl hl.1 rfl (lv_room (Nat.le_of_ble_eq_true rfl)) dX6_leastBusyFor_42 ⟨Nat.le_trans hkc hmR, Nat.le_trans hks hsR⟩) (fun v27 S26 H locs h hG => ?_)
            refine lv_aload_n hx hb dX6_leastBusyFor_45 rfl (lv_at hl 3 rfl) ?_
            obtain ⟨⟨hL28, fK29⟩, h⟩ := h
            obtain ⟨q30, eq30, h⟩ := h
            refine qr_getW hx hb hts in2 in5 hown hG hL28 fK29 1 (by decide) rfl ⟨rfl, rfl⟩ (hts (.fieldLink RX6 146 "QuayMesh$Worker" "waiting" "Ljava/util/ArrayList;") (List.mem_of_getElem? (i := 2) rfl)) (fun _ h9 => h9) (fun _ h9 => h9) (v := .ref q30) (qs_rf eq30) dX6_leastBusyFor_46 ?_
            obtain ⟨⟨hL33, fK34⟩, h⟩ := h
            refine qc_i hG (va_runV (As := []) (rest := [.int v27]) ⟨hx, hb, hml, hown, hts⟩ (c_Jx4a65c_size_8abf5 l g _ S26 q30 h) (cwV 0 hts gX6_leastBusyFor_Jx4a65c_size_8abf5 rfl rfl rfl (by decide +kernel) ⟨(Nat.le_of_ble_eq_true rfl), (Nat.le_of_ble_eq_true rfl)⟩) ⟨qs_Pc.blind _ _ _ _, hG.recv hL33 fK34 (by decide) rfl, hG.pre _⟩ rfl rfl hl.1 rfl (lv_room (Nat.le_of_ble_eq_true rfl)) dX6_leastBusyFor_49 ⟨Nat.le_trans hkc hmR, Nat.le_trans hks hsR⟩) (fun v36 S35 H locs h hG => ?_)
            refine lv_icmp_ge (tgt := 58) hx hb dX6_leastBusyFor_52 (by decide) (fun c37 => ?_) (fun c37 => ?_)
            · have h := h.1 c37
              exact b58 K4 hK4 S35 a0 x1 (some q20) x3 _ _ (k + mck4) (n + msk4) ls hkc hks h hG (lv_sub hl [1, 2, 3, 4] rfl)
            · have h := h.2 c37
              exact b55 K4 hK4 S35 a0 x1 x3 q10 _ _ (k + mck4) (n + msk4) ls hkc hks h hG (lv_sub hl [1, 2, 4, 0] rfl)
  have b4 : ∀ n9 : Nat, ∀ (S : qs_S) (a0 : Nat) (x1 : Int32) (o2 : Option Nat) (x3 : Int32) (H : Heap) (locs : List Loc) (k n : Nat) (ls : Array Slot), k ≤ mc → n ≤ ms → wp_X6_leastBusyFor_b4 g.2.2.2.2.2.2.1 g.2.2.2.2.2.2.2 mc ms post px n9 k n S a0 x1 o2 x3 → qs_Gd g (qs_F g SA s.heap.size) s S H locs → lv_has ls 5 [(0, .ref a0), (1, .int x1), (2, va_rf o2), (3, .int x3)] → W p l e (headSpec wsX6_leastBusyFor ({ frames := 9, cells := mc, slots := ms, locals := 153 } : Room)).room s m (([.ref a0z, .int x1z] : List Value)).toArray below meth c H locs k n (vx_MQ below (qs_Qq g (qs_F g SA s.heap.size) post) (qs_X g (qs_F g SA s.heap.size) px) (([.ref a0z, .int x1z] : List Value)).toArray s mc ms (qs_F g SA s.heap.size)) (F0 m 4 ls []) := by
    intro n9
    induction n9 with
    | zero =>
      intro S a0 x1 o2 x3 H locs k n ls hkc hks h hG hl
      exact False.elim h
    | succ n9 ih => exact c4 _ ih
  have hl := lv_entry ([.ref a0z, .int x1z]) (n := 5) (Nat.le_of_ble_eq_true rfl)
  rw [lg_entry_eq]
  generalize (lg_sl ([.ref a0z, .int x1z]) ++ List.replicate (5 - (lg_sl ([.ref a0z, .int x1z])).length) Slot.unset).toArray = ls at hl ⊢
  have hl : lv_has ls 5 [(0, .ref a0z), (1, .int x1z)] := hl
  unfold wp_X6_leastBusyFor at h
  refine lv_null hx hb dX6_leastBusyFor_0 ?_
  refine lv_astore_nN (lv' := [(2, .null), (0, .ref a0z), (1, .int x1z)]) hx hb dX6_leastBusyFor_1 rfl hl (by decide) rfl (fun ls hl => ?_)
  refine lv_iconst (v := (0 : Int32)) hx hb dX6_leastBusyFor_2 (by decide +kernel) ?_
  refine lv_istore_n (lv' := [(3, .int (0 : Int32)), (2, .null), (0, .ref a0z), (1, .int x1z)]) hx hb dX6_leastBusyFor_3 rfl hl (by decide) rfl (fun ls hl => ?_)
  obtain ⟨n38, h⟩ := h
  exact b4 n38 SA a0z x1z none (0 : Int32) _ _ 0 0 ls hkc hks h hG (lv_sub hl [2, 3, 1, 0] rfl)
def wp_X6_isInAQueue_c2 (t0 m9 : Nat) (mc ms : Nat) (post : Int32 → qs_S → Prop) (px : String → qs_S → Prop) (K2 : Nat → Nat → qs_S → Nat → Nat → Int32 → Prop) (k n : Nat) (S : qs_S) (a0 : Nat) (a1 : Nat) (x2 : Int32) : Prop := ((8 : Int32) ≤ x2 → (post (0 : Int32) S)) ∧ (¬ (8 : Int32) ≤ x2 → ((a0 ∈ qs_L S ∧ qs_K S a0 = 6) ∧ (∃ mck2 msk2 : Nat, (k + mck2 ≤ mc ∧ n + msk2 ≤ ms) ∧ (wp_X6_workerNumbered t0 m9 mck2 msk2 (fun (o7 : Option Nat) (S6 : qs_S) => ∃ q8 : Nat, o7 = some q8 ∧ ((q8 ∈ qs_L S6 ∧ (qs_K S6 q8 = 2 ∨ qs_K S6 q8 = 5)) ∧ (∃ q11 : Nat, qs_R S6 1 q8 = some q11 ∧ (wp_X6_indexOf t0 m9 (fun (v15 : Int32) (S14 : qs_S) => (v15 = (-1 : Int32) → (∀ v17 : Int32, v17 = x2 + 1 → K2 (k + mck2) (n + msk2) S14 a0 a1 v17)) ∧ (¬ v15 = (-1 : Int32) → (post (1 : Int32) S14))) S6 a1 q11)))) px S a0 x2))))
def wp_X6_isInAQueue_b2 (t0 m9 : Nat) (mc ms : Nat) (post : Int32 → qs_S → Prop) (px : String → qs_S → Prop) : Nat → Nat → Nat → qs_S → Nat → Nat → Int32 → Prop
  | 0 => fun _ _ _ _ _ _ => False
  | n9 + 1 => wp_X6_isInAQueue_c2 t0 m9 mc ms post px (wp_X6_isInAQueue_b2 t0 m9 mc ms post px n9)
def wp_X6_isInAQueue (t0 m9 : Nat) (mc ms : Nat) (post : Int32 → qs_S → Prop) (px : String → qs_S → Prop) (SA : qs_S) (a0z : Nat) (a1z : Nat) : Prop := ∃ n18 : Nat, wp_X6_isInAQueue_b2 t0 m9 mc ms post px n18 0 0 SA a0z a1z (0 : Int32)
set_option maxHeartbeats 4000000 in
set_option maxRecDepth 100000 in
theorem c_X6_isInAQueue (l : Launch) (hl9 : l.stackTraces = false) (g : qs_G) (sz : Nat) (SA : qs_S) (a0z : Nat) (a1z : Nat) {mc ms : Nat} {post : Int32 → qs_S → Prop} {px : String → qs_S → Prop} (h : wp_X6_isInAQueue g.2.2.2.2.2.2.1 g.2.2.2.2.2.2.2 mc ms post px SA a0z a1z) : vx_Met l yX6_isInAQueue wsX6_isInAQueue ({ frames := 9, cells := mc, slots := ms, locals := 153 } : Room) (qs_Pc g sz SA [.ref a0z, .ref a1z]) (qs_Qi g (qs_F g SA sz) post) (qs_X g (qs_F g SA sz) px) mc ms (qs_F g SA sz) := by
  refine vx_ofW (cc := cX6_isInAQueue) (maxL := 3) (ret := (some .boolean)) (by decide +kernel) rfl ?_
  intro p e s m args below meth c s₁ B hml hnt hv
  obtain ⟨rfl, hsz, hG⟩ := qs_Gd.start hv
  subst hsz
  have hx := B.exec
  have hb := B.bytes
  have hr := B.returns
  have hts := atoms_spec (ws := wsX6_isInAQueue) B.pre
  have hown : s.vm.findClass RX6 = some m.cls := findClass_of_methodNamed B.named
  have hlk := B.notSynchronized
  have in0 : ∀ w ∈ u_ws RJx4a65c TJx4a65c 3, w ∈ wsX6_isInAQueue := fun w h => List.mem_cons_of_mem _ (List.mem_append_left _ (List.mem_append_right _ (h)))
  have in2 : ∀ w ∈ u_ws RX1 TX1 8, w ∈ wsX6_isInAQueue := fun w h => List.mem_cons_of_mem _ (List.mem_append_left _ (List.mem_append_left _ (List.mem_append_left _ (List.mem_append_left _ (List.mem_append_right _ (h))))))
  have in5 : ∀ w ∈ u_ws RX4 TX4 8, w ∈ wsX6_isInAQueue := fun w h => List.mem_cons_of_mem _ (List.mem_append_left _ (List.mem_append_left _ (List.mem_append_left _ (List.mem_append_right _ (h)))))
  have in6 : ∀ w ∈ u_ws RX6 TX6 8, w ∈ wsX6_isInAQueue := fun w h => List.mem_cons_of_mem _ (List.mem_append_left _ (List.mem_append_left _ (List.mem_append_right _ (h))))
  have hkc : 0 ≤ mc := Nat.zero_le _
  have hks : 0 ≤ ms := Nat.zero_le _
  have hmR : mc ≤ (headSpec wsX6_isInAQueue ({ frames := 9, cells := mc, slots := ms, locals := 153 } : Room)).room.cells := Nat.le_refl _
  have hsR : ms ≤ (headSpec wsX6_isInAQueue ({ frames := 9, cells := mc, slots := ms, locals := 153 } : Room)).room.slots := Nat.le_refl _
  have c2 : ∀ (K2 : Nat → Nat → qs_S → Nat → Nat → Int32 → Prop), (∀ (S : qs_S) (a0 : Nat) (a1 : Nat) (x2 : Int32) (H : Heap) (locs : List Loc) (k n : Nat) (ls : Array Slot), k ≤ mc → n ≤ ms → K2 k n S a0 a1 x2 → qs_Gd g (qs_F g SA s.heap.size) s S H locs → lv_has ls 3 [(0, .ref a0), (1, .ref a1), (2, .int x2)] → W p l e (headSpec wsX6_isInAQueue ({ frames := 9, cells := mc, slots := ms, locals := 153 } : Room)).room s m (([.ref a0z, .ref a1z] : List Value)).toArray below meth c H locs k n (vx_MQ below (qs_Qi g (qs_F g SA s.heap.size) post) (qs_X g (qs_F g SA s.heap.size) px) (([.ref a0z, .ref a1z] : List Value)).toArray s mc ms (qs_F g SA s.heap.size)) (F0 m 2 ls [])) → ∀ (S : qs_S) (a0 : Nat) (a1 : Nat) (x2 : Int32) (H : Heap) (locs : List Loc) (k n : Nat) (ls : Array Slot), k ≤ mc → n ≤ ms → wp_X6_isInAQueue_c2 g.2.2.2.2.2.2.1 g.2.2.2.2.2.2.2 mc ms post px K2 k n S a0 a1 x2 → qs_Gd g (qs_F g SA s.heap.size) s S H locs → lv_has ls 3 [(0, .ref a0), (1, .ref a1), (2, .int x2)] → W p l e (headSpec wsX6_isInAQueue ({ frames := 9, cells := mc, slots := ms, locals := 153 } : Room)).room s m (([.ref a0z, .ref a1z] : List Value)).toArray below meth c H locs k n (vx_MQ below (qs_Qi g (qs_F g SA s.heap.size) post) (qs_X g (qs_F g SA s.heap.size) px) (([.ref a0z, .ref a1z] : List Value)).toArray s mc ms (qs_F g SA s.heap.size)) (F0 m 2 ls []) := by
    intro K2 hK2 S a0 a1 x2 H locs k n ls hkc hks h hG hl
    unfold wp_X6_isInAQueue_c2 at h
    refine lv_iload_n hx hb dX6_isInAQueue_2 rfl (lv_at hl 2 rfl) ?_
    refine lv_bipush (v := (8 : Int32)) hx hb dX6_isInAQueue_3 (by decide +kernel) ?_
    refine lv_icmp_ge (tgt := 32) hx hb dX6_isInAQueue_5 (by decide) (fun c1 => ?_) (fun c1 => ?_)
    · have h := h.1 c1
      refine lv_iconst (v := (0 : Int32)) hx hb dX6_isInAQueue_32 (by decide +kernel) ?_
      refine vx_ret ?_
      exact qe_z hx hb hr hlk (Or.inl rfl) hG h hkc hks dX6_isInAQueue_33
    · have h := h.2 c1
      refine lv_aload_n hx hb dX6_isInAQueue_8 rfl (lv_at hl 1 rfl) ?_
      refine lv_aload_n hx hb dX6_isInAQueue_9 rfl (lv_at hl 0 rfl) ?_
      refine lv_iload_n hx hb dX6_isInAQueue_10 rfl (lv_at hl 2 rfl) ?_
      obtain ⟨⟨hL4, fK5⟩, h⟩ := h
      obtain ⟨mck2, msk2, ⟨hs3c, hs3s⟩, h⟩ := h
      refine qx_q hG (vx_runV (As := [.int x2]) (rest := [.ref a1]) ⟨hx, hb, hml, hown, hts⟩ (c_X6_workerNumbered l hl9 g _ S a0 x2 h) (cwV 1 hts gX6_isInAQueue_X6_workerNumbered rfl rfl rfl (by decide +kernel) ⟨(Nat.le_of_ble_eq_true rfl), (Nat.le_of_ble_eq_true rfl)⟩) ⟨qs_Pc.blind _ _ _ _, hG.recv hL4 fK5 (by decide) rfl, hG.pre _⟩ rfl rfl hl.1 rfl (lv_room (Nat.le_of_ble_eq_true rfl)) dX6_isInAQueue_11 ⟨Nat.le_trans hs3c hmR, Nat.le_trans hs3s hsR⟩) (fun E S1 H locs ce q9 hp hG h1 h2 h3 => qx_out hnt hlk hG hp h1 h2 h3 hs3c hs3s) (fun o7 S6 H locs h hG => ?_)
      have hkc := hs3c
      have hks := hs3s
      obtain ⟨q8, rfl, h⟩ := h
      obtain ⟨⟨hL9, fK10⟩, h⟩ := h
      obtain ⟨q11, eq11, h⟩ := h
      refine qr_getW hx hb hts in2 in5 hown hG hL9 fK10 1 (by decide) rfl ⟨rfl, rfl⟩ (hts (.fieldLink RX6 146 "QuayMesh$Worker" "waiting" "Ljava/util/ArrayList;") (List.mem_of_getElem? (i := 1) rfl)) (fun _ h9 => h9) (fun _ h9 => h9) (v := .ref q11) (qs_rf eq11) dX6_isInAQueue_14 ?_
      refine qc_i hG (va_runS (As := [.ref a1, .ref q11]) (rest := []) ⟨hx, hb, hml, hown, hts⟩ (c_X6_indexOf l g _ S6 a1 q11 h) (va_cwS 2 hts gX6_isInAQueue_X6_indexOf rfl rfl rfl (by decide +kernel) ⟨(Nat.le_of_ble_eq_true rfl), (Nat.le_of_ble_eq_true rfl)⟩) ⟨qs_Pc.blind _ _ _ _, hG.pre _⟩ rfl rfl hl.1 rfl (lv_room (Nat.le_of_ble_eq_true rfl)) dX6_isInAQueue_17 ⟨Nat.le_trans hkc hmR, Nat.le_trans hks hsR⟩) (fun v15 S14 H locs h hG => ?_)
      refine lv_iconst (v := (-1 : Int32)) hx hb dX6_isInAQueue_20 (by decide +kernel) ?_
      refine lv_icmp_eq (tgt := 26) hx hb dX6_isInAQueue_21 (by decide) (fun c16 => ?_) (fun c16 => ?_)
      · have h := h.1 c16
        obtain ⟨v17, ev17⟩ : ∃ y : Int32, y = x2 + 1 := ⟨_, rfl⟩
        have h := h v17 ev17
        refine lv_iinc (v := v17) (lv' := [(2, .int v17), (0, .ref a0), (1, .ref a1)]) hx hb dX6_isInAQueue_26 hl (k := 2) rfl (by rw [ev17]; rfl) (by decide) rfl (fun ls hl => ?_)
        refine lv_goto (tgt := 2) hx hb dX6_isInAQueue_29 (by decide) ?_
        exact hK2 S14 a0 a1 v17 _ _ (k + mck2) (n + msk2) ls hkc hks h hG (lv_sub hl [1, 2, 0] rfl)
      · have h := h.2 c16
        refine lv_iconst (v := (1 : Int32)) hx hb dX6_isInAQueue_24 (by decide +kernel) ?_
        refine vx_ret ?_
        exact qe_z hx hb hr hlk (Or.inr rfl) hG h hkc hks dX6_isInAQueue_25
  have b2 : ∀ n9 : Nat, ∀ (S : qs_S) (a0 : Nat) (a1 : Nat) (x2 : Int32) (H : Heap) (locs : List Loc) (k n : Nat) (ls : Array Slot), k ≤ mc → n ≤ ms → wp_X6_isInAQueue_b2 g.2.2.2.2.2.2.1 g.2.2.2.2.2.2.2 mc ms post px n9 k n S a0 a1 x2 → qs_Gd g (qs_F g SA s.heap.size) s S H locs → lv_has ls 3 [(0, .ref a0), (1, .ref a1), (2, .int x2)] → W p l e (headSpec wsX6_isInAQueue ({ frames := 9, cells := mc, slots := ms, locals := 153 } : Room)).room s m (([.ref a0z, .ref a1z] : List Value)).toArray below meth c H locs k n (vx_MQ below (qs_Qi g (qs_F g SA s.heap.size) post) (qs_X g (qs_F g SA s.heap.size) px) (([.ref a0z, .ref a1z] : List Value)).toArray s mc ms (qs_F g SA s.heap.size)) (F0 m 2 ls []) := by
    intro n9
    induction n9 with
    | zero =>
      intro S a0 a1 x2 H locs k n ls hkc hks h hG hl
      exact False.elim h
    | succ n9 ih => exact c2 _ ih
  have hl := lv_entry ([.ref a0z, .ref a1z]) (n := 3) (Nat.le_of_ble_eq_true rfl)
  rw [lg_entry_eq]
  generalize (lg_sl ([.ref a0z, .ref a1z]) ++ List.replicate (3 - (lg_sl ([.ref a0z, .ref a1z])).length) Slot.unset).toArray = ls at hl ⊢
  have hl : lv_has ls 3 [(0, .ref a0z), (1, .ref a1z)] := hl
  unfold wp_X6_isInAQueue at h
  refine lv_iconst (v := (0 : Int32)) hx hb dX6_isInAQueue_0 (by decide +kernel) ?_
  refine lv_istore_n (lv' := [(2, .int (0 : Int32)), (0, .ref a0z), (1, .ref a1z)]) hx hb dX6_isInAQueue_1 rfl hl (by decide) rfl (fun ls hl => ?_)
  obtain ⟨n18, h⟩ := h
  exact b2 n18 SA a0z a1z (0 : Int32) _ _ 0 0 ls hkc hks h hG (lv_sub hl [1, 2, 0] rfl)
def wp_X6_canGo_b65 (t0 m9 : Nat) (mc ms : Nat) (post : Int32 → qs_S → Prop) (px : String → qs_S → Prop) (k n : Nat) (S : qs_S) (s0 : Int32) : Prop := (s0 = 0 ∨ s0 = 1) ∧ post s0 S
def wp_X6_canGo_b64 (t0 m9 : Nat) (mc ms : Nat) (post : Int32 → qs_S → Prop) (px : String → qs_S → Prop) (k n : Nat) (S : qs_S) : Prop := wp_X6_canGo_b65 t0 m9 mc ms post px k n S (0 : Int32)
def wp_X6_canGo_b49 (t0 m9 : Nat) (mc ms : Nat) (post : Int32 → qs_S → Prop) (px : String → qs_S → Prop) (k n : Nat) (S : qs_S) (x3 : Int32) (s0 : Int32) : Prop := (x3 = 0 → (wp_X6_canGo_b64 t0 m9 mc ms post px k n S)) ∧ (¬ x3 = 0 → ((s0 = 0 → (wp_X6_canGo_b64 t0 m9 mc ms post px k n S)) ∧ (¬ s0 = 0 → (wp_X6_canGo_b65 t0 m9 mc ms post px k n S (1 : Int32)))))
def wp_X6_canGo_b44 (t0 m9 : Nat) (mc ms : Nat) (post : Int32 → qs_S → Prop) (px : String → qs_S → Prop) (k n : Nat) (S : qs_S) (x3 : Int32) : Prop := wp_X6_canGo_b49 t0 m9 mc ms post px k n S x3 (1 : Int32)
def wp_X6_canGo_b24 (t0 m9 : Nat) (mc ms : Nat) (post : Int32 → qs_S → Prop) (px : String → qs_S → Prop) (k n : Nat) (S : qs_S) (a0 : Nat) (x1 : Int32) (x2 : Int32) (s0 : Int32) : Prop := ((2 : Int32) < x1 → (wp_X6_canGo_b44 t0 m9 mc ms post px k n S s0)) ∧ (¬ (2 : Int32) < x1 → (∀ v5 : Int32, v5 = x1 + (1 : Int32) → (a0 ∈ qs_L S ∧ qs_K S a0 = 6) ∧ (∃ mck6 msk6 : Nat, (k + mck6 ≤ mc ∧ n + msk6 ≤ ms) ∧ (wp_X6_craneNumbered t0 m9 mck6 msk6 (fun (o11 : Option Nat) (S10 : qs_S) => ∃ q12 : Nat, o11 = some q12 ∧ ((q12 ∈ qs_L S10 ∧ qs_K S10 q12 = 2) ∧ (∀ v15 : Int32, v15 = qs_I S10 7 q12 → (v15 ≤ x2 → (wp_X6_canGo_b49 t0 m9 mc ms post px (k + mck6) (n + msk6) S10 s0 (0 : Int32))) ∧ (¬ v15 ≤ x2 → (wp_X6_canGo_b44 t0 m9 mc ms post px (k + mck6) (n + msk6) S10 s0))))) px S a0 v5))))
def wp_X6_canGo_b19 (t0 m9 : Nat) (mc ms : Nat) (post : Int32 → qs_S → Prop) (px : String → qs_S → Prop) (k n : Nat) (S : qs_S) (a0 : Nat) (x1 : Int32) (x2 : Int32) : Prop := wp_X6_canGo_b24 t0 m9 mc ms post px k n S a0 x1 x2 (1 : Int32)
def wp_X6_canGo (t0 m9 : Nat) (mc ms : Nat) (post : Int32 → qs_S → Prop) (px : String → qs_S → Prop) (SA : qs_S) (a0z : Nat) (x1z : Int32) (x2z : Int32) : Prop := (x1z < (1 : Int32) → (wp_X6_canGo_b19 t0 m9 mc ms post px 0 0 SA a0z x1z x2z)) ∧ (¬ x1z < (1 : Int32) → (∀ v18 : Int32, v18 = x1z - (1 : Int32) → (a0z ∈ qs_L SA ∧ qs_K SA a0z = 6) ∧ (∃ mck19 msk19 : Nat, (0 + mck19 ≤ mc ∧ 0 + msk19 ≤ ms) ∧ (wp_X6_craneNumbered t0 m9 mck19 msk19 (fun (o24 : Option Nat) (S23 : qs_S) => ∃ q25 : Nat, o24 = some q25 ∧ ((q25 ∈ qs_L S23 ∧ qs_K S23 q25 = 2) ∧ (∀ v28 : Int32, v28 = qs_I S23 7 q25 → (x2z ≤ v28 → (wp_X6_canGo_b24 t0 m9 mc ms post px (0 + mck19) (0 + msk19) S23 a0z x1z x2z (0 : Int32))) ∧ (¬ x2z ≤ v28 → (wp_X6_canGo_b19 t0 m9 mc ms post px (0 + mck19) (0 + msk19) S23 a0z x1z x2z))))) px SA a0z v18))))
set_option maxHeartbeats 4000000 in
set_option maxRecDepth 100000 in
theorem c_X6_canGo (l : Launch) (hl9 : l.stackTraces = false) (g : qs_G) (sz : Nat) (SA : qs_S) (a0z : Nat) (x1z : Int32) (x2z : Int32) {mc ms : Nat} {post : Int32 → qs_S → Prop} {px : String → qs_S → Prop} (h : wp_X6_canGo g.2.2.2.2.2.2.1 g.2.2.2.2.2.2.2 mc ms post px SA a0z x1z x2z) : vx_Met l yX6_canGo wsX6_canGo ({ frames := 8, cells := mc, slots := ms, locals := 132 } : Room) (qs_Pc g sz SA [.ref a0z, .int x1z, .int x2z]) (qs_Qi g (qs_F g SA sz) post) (qs_X g (qs_F g SA sz) px) mc ms (qs_F g SA sz) := by
  refine vx_ofW (cc := cX6_canGo) (maxL := 5) (ret := (some .boolean)) (by decide +kernel) rfl ?_
  intro p e s m args below meth c s₁ B hml hnt hv
  obtain ⟨rfl, hsz, hG⟩ := qs_Gd.start hv
  subst hsz
  have hx := B.exec
  have hb := B.bytes
  have hr := B.returns
  have hts := atoms_spec (ws := wsX6_canGo) B.pre
  have hown : s.vm.findClass RX6 = some m.cls := findClass_of_methodNamed B.named
  have hlk := B.notSynchronized
  have in0 : ∀ w ∈ u_ws RJx4a65c TJx4a65c 3, w ∈ wsX6_canGo := fun w h => List.mem_cons_of_mem _ (List.mem_append_left _ (List.mem_append_right _ (h)))
  have in2 : ∀ w ∈ u_ws RX1 TX1 8, w ∈ wsX6_canGo := fun w h => List.mem_cons_of_mem _ (List.mem_append_left _ (List.mem_append_left _ (List.mem_append_left _ (List.mem_append_right _ (h)))))
  have in6 : ∀ w ∈ u_ws RX6 TX6 8, w ∈ wsX6_canGo := fun w h => List.mem_cons_of_mem _ (List.mem_append_left _ (List.mem_append_left _ (List.mem_append_right _ (h))))
  have hkc : 0 ≤ mc := Nat.zero_le _
  have hks : 0 ≤ ms := Nat.zero_le _
  have hmR : mc ≤ (headSpec wsX6_canGo ({ frames := 8, cells := mc, slots := ms, locals := 132 } : Room)).room.cells := Nat.le_refl _
  have hsR : ms ≤ (headSpec wsX6_canGo ({ frames := 8, cells := mc, slots := ms, locals := 132 } : Room)).room.slots := Nat.le_refl _
  have b65 : ∀ (S : qs_S) (s0 : Int32) (H : Heap) (locs : List Loc) (k n : Nat) (ls : Array Slot), k ≤ mc → n ≤ ms → wp_X6_canGo_b65 g.2.2.2.2.2.2.1 g.2.2.2.2.2.2.2 mc ms post px k n S s0 → qs_Gd g (qs_F g SA s.heap.size) s S H locs → lv_has ls 5 [] → W p l e (headSpec wsX6_canGo ({ frames := 8, cells := mc, slots := ms, locals := 132 } : Room)).room s m (([.ref a0z, .int x1z, .int x2z] : List Value)).toArray below meth c H locs k n (vx_MQ below (qs_Qi g (qs_F g SA s.heap.size) post) (qs_X g (qs_F g SA s.heap.size) px) (([.ref a0z, .int x1z, .int x2z] : List Value)).toArray s mc ms (qs_F g SA s.heap.size)) (F0 m 65 ls [.int s0]) := by
    intro S s0 H locs k n ls hkc hks h hG hl
    unfold wp_X6_canGo_b65 at h
    refine vx_ret ?_
    obtain ⟨z1, h⟩ := h
    exact qe_z hx hb hr hlk z1 hG h hkc hks dX6_canGo_65
  have b64 : ∀ (S : qs_S) (H : Heap) (locs : List Loc) (k n : Nat) (ls : Array Slot), k ≤ mc → n ≤ ms → wp_X6_canGo_b64 g.2.2.2.2.2.2.1 g.2.2.2.2.2.2.2 mc ms post px k n S → qs_Gd g (qs_F g SA s.heap.size) s S H locs → lv_has ls 5 [] → W p l e (headSpec wsX6_canGo ({ frames := 8, cells := mc, slots := ms, locals := 132 } : Room)).room s m (([.ref a0z, .int x1z, .int x2z] : List Value)).toArray below meth c H locs k n (vx_MQ below (qs_Qi g (qs_F g SA s.heap.size) post) (qs_X g (qs_F g SA s.heap.size) px) (([.ref a0z, .int x1z, .int x2z] : List Value)).toArray s mc ms (qs_F g SA s.heap.size)) (F0 m 64 ls []) := by
    intro S H locs k n ls hkc hks h hG hl
    unfold wp_X6_canGo_b64 at h
    refine lv_iconst (v := (0 : Int32)) hx hb dX6_canGo_64 (by decide +kernel) ?_
    exact b65 S (0 : Int32) _ _ k n ls hkc hks h hG (lv_sub hl [] rfl)
  have b49 : ∀ (S : qs_S) (x3 : Int32) (s0 : Int32) (H : Heap) (locs : List Loc) (k n : Nat) (ls : Array Slot), k ≤ mc → n ≤ ms → wp_X6_canGo_b49 g.2.2.2.2.2.2.1 g.2.2.2.2.2.2.2 mc ms post px k n S x3 s0 → qs_Gd g (qs_F g SA s.heap.size) s S H locs → lv_has ls 5 [(3, .int x3)] → W p l e (headSpec wsX6_canGo ({ frames := 8, cells := mc, slots := ms, locals := 132 } : Room)).room s m (([.ref a0z, .int x1z, .int x2z] : List Value)).toArray below meth c H locs k n (vx_MQ below (qs_Qi g (qs_F g SA s.heap.size) post) (qs_X g (qs_F g SA s.heap.size) px) (([.ref a0z, .int x1z, .int x2z] : List Value)).toArray s mc ms (qs_F g SA s.heap.size)) (F0 m 49 ls [.int s0]) := by
    intro S x3 s0 H locs k n ls hkc hks h hG hl
    unfold wp_X6_canGo_b49 at h
    refine lv_istore (lv' := [(4, .int s0), (3, .int x3)]) hx hb dX6_canGo_49 hl (by decide) rfl (fun ls hl => ?_)
    refine lv_iload_n hx hb dX6_canGo_51 rfl (lv_at hl 1 rfl) ?_
    refine lv_if_eq (tgt := 64) hx hb dX6_canGo_52 (by decide) (fun c2 => ?_) (fun c2 => ?_)
    · have h := h.1 c2
      exact b64 S _ _ k n ls hkc hks h hG (lv_sub hl [] rfl)
    · have h := h.2 c2
      refine lv_iload hx hb dX6_canGo_55 (lv_at hl 0 rfl) ?_
      refine lv_if_eq (tgt := 64) hx hb dX6_canGo_57 (by decide) (fun c3 => ?_) (fun c3 => ?_)
      · have h := h.1 c3
        exact b64 S _ _ k n ls hkc hks h hG (lv_sub hl [] rfl)
      · have h := h.2 c3
        refine lv_iconst (v := (1 : Int32)) hx hb dX6_canGo_60 (by decide +kernel) ?_
        refine lv_goto (tgt := 65) hx hb dX6_canGo_61 (by decide) ?_
        exact b65 S (1 : Int32) _ _ k n ls hkc hks h hG (lv_sub hl [] rfl)
  have b44 : ∀ (S : qs_S) (x3 : Int32) (H : Heap) (locs : List Loc) (k n : Nat) (ls : Array Slot), k ≤ mc → n ≤ ms → wp_X6_canGo_b44 g.2.2.2.2.2.2.1 g.2.2.2.2.2.2.2 mc ms post px k n S x3 → qs_Gd g (qs_F g SA s.heap.size) s S H locs → lv_has ls 5 [(3, .int x3)] → W p l e (headSpec wsX6_canGo ({ frames := 8, cells := mc, slots := ms, locals := 132 } : Room)).room s m (([.ref a0z, .int x1z, .int x2z] : List Value)).toArray below meth c H locs k n (vx_MQ below (qs_Qi g (qs_F g SA s.heap.size) post) (qs_X g (qs_F g SA s.heap.size) px) (([.ref a0z, .int x1z, .int x2z] : List Value)).toArray s mc ms (qs_F g SA s.heap.size)) (F0 m 44 ls []) := by
    intro S x3 H locs k n ls hkc hks h hG hl
    unfold wp_X6_canGo_b44 at h
    refine lv_iconst (v := (1 : Int32)) hx hb dX6_canGo_44 (by decide +kernel) ?_
    refine lv_goto (tgt := 49) hx hb dX6_canGo_45 (by decide) ?_
    exact b49 S x3 (1 : Int32) _ _ k n ls hkc hks h hG (lv_sub hl [0] rfl)
  have b24 : ∀ (S : qs_S) (a0 : Nat) (x1 : Int32) (x2 : Int32) (s0 : Int32) (H : Heap) (locs : List Loc) (k n : Nat) (ls : Array Slot), k ≤ mc → n ≤ ms → wp_X6_canGo_b24 g.2.2.2.2.2.2.1 g.2.2.2.2.2.2.2 mc ms post px k n S a0 x1 x2 s0 → qs_Gd g (qs_F g SA s.heap.size) s S H locs → lv_has ls 5 [(0, .ref a0), (1, .int x1), (2, .int x2)] → W p l e (headSpec wsX6_canGo ({ frames := 8, cells := mc, slots := ms, locals := 132 } : Room)).room s m (([.ref a0z, .int x1z, .int x2z] : List Value)).toArray below meth c H locs k n (vx_MQ below (qs_Qi g (qs_F g SA s.heap.size) post) (qs_X g (qs_F g SA s.heap.size) px) (([.ref a0z, .int x1z, .int x2z] : List Value)).toArray s mc ms (qs_F g SA s.heap.size)) (F0 m 24 ls [.int s0]) := by
    intro S a0 x1 x2 s0 H locs k n ls hkc hks h hG hl
    unfold wp_X6_canGo_b24 at h
    refine lv_istore_n (lv' := [(3, .int s0), (0, .ref a0), (1, .int x1), (2, .int x2)]) hx hb dX6_canGo_24 rfl hl (by decide) rfl (fun ls hl => ?_)
    refine lv_iload_n hx hb dX6_canGo_25 rfl (lv_at hl 2 rfl) ?_
    refine lv_iconst (v := (2 : Int32)) hx hb dX6_canGo_26 (by decide +kernel) ?_
    refine lv_icmp_gt (tgt := 44) hx hb dX6_canGo_27 (by decide) (fun c4 => ?_) (fun c4 => ?_)
    · have h := h.1 c4
      exact b44 S s0 _ _ k n ls hkc hks h hG (lv_sub hl [0] rfl)
    · have h := h.2 c4
      refine lv_aload_n hx hb dX6_canGo_30 rfl (lv_at hl 1 rfl) ?_
      refine lv_iload_n hx hb dX6_canGo_31 rfl (lv_at hl 2 rfl) ?_
      refine lv_iconst (v := (1 : Int32)) hx hb dX6_canGo_32 (by decide +kernel) ?_
      refine lv_iadd hx hb dX6_canGo_33 ?_
      refine lv_topi (fun v5 ev5 => ?_)
      have h := h v5 ev5
      obtain ⟨⟨hL8, fK9⟩, h⟩ := h
      obtain ⟨mck6, msk6, ⟨hs7c, hs7s⟩, h⟩ := h
      refine qx_q hG (vx_runV (As := [.int v5]) (rest := []) ⟨hx, hb, hml, hown, hts⟩ (c_X6_craneNumbered l hl9 g _ S a0 v5 h) (cwV 1 hts gX6_canGo_X6_craneNumbered rfl rfl rfl (by decide +kernel) ⟨(Nat.le_of_ble_eq_true rfl), (Nat.le_of_ble_eq_true rfl)⟩) ⟨qs_Pc.blind _ _ _ _, hG.recv hL8 fK9 (by decide) rfl, hG.pre _⟩ rfl rfl hl.1 rfl (lv_room (Nat.le_of_ble_eq_true rfl)) dX6_canGo_34 ⟨Nat.le_trans hs7c hmR, Nat.le_trans hs7s hsR⟩) (fun E S1 H locs ce q9 hp hG h1 h2 h3 => qx_out hnt hlk hG hp h1 h2 h3 hs7c hs7s) (fun o11 S10 H locs h hG => ?_)
      have hkc := hs7c
      have hks := hs7s
      obtain ⟨q12, rfl, h⟩ := h
      obtain ⟨⟨hL13, fK14⟩, h⟩ := h
      refine qr_get (C := RX1) (T := TX1) (N := 8) (ci := 2) hx hb hts in2 hown hG hL13 fK14 (by decide) rfl 7 (by decide) rfl (hts (.fieldLink RX6 239 "QuayMesh$Crane" "place" "I") (List.mem_of_getElem? (i := 1) rfl)) (fun _ h9 => h9) (v := .int (qs_I S10 7 q12)) rfl dX6_canGo_37 ?_
      refine lv_topi (fun v15 ev15 => ?_)
      have h := h v15 ev15
      refine lv_iload_n hx hb dX6_canGo_40 rfl (lv_at hl 3 rfl) ?_
      refine lv_icmp_le (tgt := 48) hx hb dX6_canGo_41 (by decide) (fun c16 => ?_) (fun c16 => ?_)
      · have h := h.1 c16
        refine lv_iconst (v := (0 : Int32)) hx hb dX6_canGo_48 (by decide +kernel) ?_
        exact b49 S10 s0 (0 : Int32) _ _ (k + mck6) (n + msk6) ls hkc hks h hG (lv_sub hl [0] rfl)
      · have h := h.2 c16
        exact b44 S10 s0 _ _ (k + mck6) (n + msk6) ls hkc hks h hG (lv_sub hl [0] rfl)
  have b19 : ∀ (S : qs_S) (a0 : Nat) (x1 : Int32) (x2 : Int32) (H : Heap) (locs : List Loc) (k n : Nat) (ls : Array Slot), k ≤ mc → n ≤ ms → wp_X6_canGo_b19 g.2.2.2.2.2.2.1 g.2.2.2.2.2.2.2 mc ms post px k n S a0 x1 x2 → qs_Gd g (qs_F g SA s.heap.size) s S H locs → lv_has ls 5 [(0, .ref a0), (1, .int x1), (2, .int x2)] → W p l e (headSpec wsX6_canGo ({ frames := 8, cells := mc, slots := ms, locals := 132 } : Room)).room s m (([.ref a0z, .int x1z, .int x2z] : List Value)).toArray below meth c H locs k n (vx_MQ below (qs_Qi g (qs_F g SA s.heap.size) post) (qs_X g (qs_F g SA s.heap.size) px) (([.ref a0z, .int x1z, .int x2z] : List Value)).toArray s mc ms (qs_F g SA s.heap.size)) (F0 m 19 ls []) := by
    intro S a0 x1 x2 H locs k n ls hkc hks h hG hl
    unfold wp_X6_canGo_b19 at h
    refine lv_iconst (v := (1 : Int32)) hx hb dX6_canGo_19 (by decide +kernel) ?_
    refine lv_goto (tgt := 24) hx hb dX6_canGo_20 (by decide) ?_
    exact b24 S a0 x1 x2 (1 : Int32) _ _ k n ls hkc hks h hG (lv_sub hl [0, 1, 2] rfl)
  have hl := lv_entry ([.ref a0z, .int x1z, .int x2z]) (n := 5) (Nat.le_of_ble_eq_true rfl)
  rw [lg_entry_eq]
  generalize (lg_sl ([.ref a0z, .int x1z, .int x2z]) ++ List.replicate (5 - (lg_sl ([.ref a0z, .int x1z, .int x2z])).length) Slot.unset).toArray = ls at hl ⊢
  have hl : lv_has ls 5 [(0, .ref a0z), (1, .int x1z), (2, .int x2z)] := hl
  unfold wp_X6_canGo at h
  refine lv_iload_n hx hb dX6_canGo_0 rfl (lv_at hl 1 rfl) ?_
  refine lv_iconst (v := (1 : Int32)) hx hb dX6_canGo_1 (by decide +kernel) ?_
  refine lv_icmp_lt (tgt := 19) hx hb dX6_canGo_2 (by decide) (fun c17 => ?_) (fun c17 => ?_)
  · have h := h.1 c17
    exact b19 SA a0z x1z x2z _ _ 0 0 ls hkc hks h hG (lv_sub hl [0, 1, 2] rfl)
  · have h := h.2 c17
    refine lv_aload_n hx hb dX6_canGo_5 rfl (lv_at hl 0 rfl) ?_
    refine lv_iload_n hx hb dX6_canGo_6 rfl (lv_at hl 1 rfl) ?_
    refine lv_iconst (v := (1 : Int32)) hx hb dX6_canGo_7 (by decide +kernel) ?_
    refine lv_isub hx hb dX6_canGo_8 ?_
    refine lv_topi (fun v18 ev18 => ?_)
    have h := h v18 ev18
    obtain ⟨⟨hL21, fK22⟩, h⟩ := h
    obtain ⟨mck19, msk19, ⟨hs20c, hs20s⟩, h⟩ := h
    refine qx_q hG (vx_runV (As := [.int v18]) (rest := []) ⟨hx, hb, hml, hown, hts⟩ (c_X6_craneNumbered l hl9 g _ SA a0z v18 h) (cwV 1 hts gX6_canGo_X6_craneNumbered rfl rfl rfl (by decide +kernel) ⟨(Nat.le_of_ble_eq_true rfl), (Nat.le_of_ble_eq_true rfl)⟩) ⟨qs_Pc.blind _ _ _ _, hG.recv hL21 fK22 (by decide) rfl, hG.pre _⟩ rfl rfl hl.1 rfl (lv_room (Nat.le_of_ble_eq_true rfl)) dX6_canGo_9 ⟨Nat.le_trans hs20c hmR, Nat.le_trans hs20s hsR⟩) (fun E S1 H locs ce q9 hp hG h1 h2 h3 => qx_out hnt hlk hG hp h1 h2 h3 hs20c hs20s) (fun o24 S23 H locs h hG => ?_)
    have hkc := hs20c
    have hks := hs20s
    obtain ⟨q25, rfl, h⟩ := h
    obtain ⟨⟨hL26, fK27⟩, h⟩ := h
    refine qr_get (C := RX1) (T := TX1) (N := 8) (ci := 2) hx hb hts in2 hown hG hL26 fK27 (by decide) rfl 7 (by decide) rfl (hts (.fieldLink RX6 239 "QuayMesh$Crane" "place" "I") (List.mem_of_getElem? (i := 1) rfl)) (fun _ h9 => h9) (v := .int (qs_I S23 7 q25)) rfl dX6_canGo_12 ?_
    refine lv_topi (fun v28 ev28 => ?_)
    have h := h v28 ev28
    refine lv_iload_n hx hb dX6_canGo_15 rfl (lv_at hl 2 rfl) ?_
    refine lv_icmp_ge (tgt := 23) hx hb dX6_canGo_16 (by decide) (fun c29 => ?_) (fun c29 => ?_)
    · have h := h.1 c29
      refine lv_iconst (v := (0 : Int32)) hx hb dX6_canGo_23 (by decide +kernel) ?_
      exact b24 S23 a0z x1z x2z (0 : Int32) _ _ (0 + mck19) (0 + msk19) ls hkc hks h hG (lv_sub hl [0, 1, 2] rfl)
    · have h := h.2 c29
      exact b19 S23 a0z x1z x2z _ _ (0 + mck19) (0 + msk19) ls hkc hks h hG (lv_sub hl [0, 1, 2] rfl)
def wp_X6_isNothingToDo_b38 (t0 m9 : Nat) (post : Int32 → qs_S → Prop) (S : qs_S) (s0 : Int32) : Prop := (s0 = 0 ∨ s0 = 1) ∧ post s0 S
def wp_X6_isNothingToDo_b33 (t0 m9 : Nat) (post : Int32 → qs_S → Prop) (S : qs_S) : Prop := wp_X6_isNothingToDo_b38 t0 m9 post S (1 : Int32)
def wp_X6_isNothingToDo_b37 (t0 m9 : Nat) (post : Int32 → qs_S → Prop) (S : qs_S) : Prop := wp_X6_isNothingToDo_b38 t0 m9 post S (0 : Int32)
def wp_X6_isNothingToDo (t0 m9 : Nat) (post : Int32 → qs_S → Prop) (SA : qs_S) (a0z : Nat) : Prop := (a0z ∈ qs_L SA ∧ qs_K SA a0z = 3) ∧ (∃ q4 : Nat, qs_R SA 2 a0z = some q4 ∧ ((q4 ∈ qs_L SA ∧ qs_K SA q4 = 1) ∧ (∀ v7 : Int32, v7 = qs_I SA 2 q4 → (v7 = (4 : Int32) → (wp_X6_isNothingToDo_b33 t0 m9 post SA)) ∧ (¬ v7 = (4 : Int32) → (∀ v9 : Int32, v9 = qs_I SA 1 a0z → (¬ v9 = (1 : Int32) → (wp_X6_isNothingToDo_b37 t0 m9 post SA)) ∧ (v9 = (1 : Int32) → (∀ v11 : Int32, v11 = qs_I SA 3 a0z → wp_X0_isAt t0 m9 (fun (v15 : Int32) (S14 : qs_S) => (v15 = 0 → (wp_X6_isNothingToDo_b37 t0 m9 post S14)) ∧ (¬ v15 = 0 → (wp_X6_isNothingToDo_b33 t0 m9 post S14))) SA q4 (3 : Int32) v11)))))))
set_option maxHeartbeats 4000000 in
set_option maxRecDepth 100000 in
theorem c_X6_isNothingToDo (l : Launch) (g : qs_G) (sz : Nat) (SA : qs_S) (a0z : Nat) {post : Int32 → qs_S → Prop} (h : wp_X6_isNothingToDo g.2.2.2.2.2.2.1 g.2.2.2.2.2.2.2 post SA a0z) : Met l yX6_isNothingToDo wsX6_isNothingToDo ({ frames := 1, cells := 0, slots := 0, locals := 22 } : Room) (qs_Pc g sz SA [.ref a0z]) (qs_Qi g (qs_F g SA sz) post) 0 0 (qs_F g SA sz) := by
  refine Met.ofW (cc := cX6_isNothingToDo) (maxL := 2) (ret := (some .boolean)) (by decide +kernel) rfl ?_
  intro p e s m args below meth c s₁ B hml hv
  obtain ⟨rfl, hsz, hG⟩ := qs_Gd.start hv
  subst hsz
  have hx := B.exec
  have hb := B.bytes
  have hr := B.returns
  have hts := atoms_spec (ws := wsX6_isNothingToDo) B.pre
  have hown : s.vm.findClass RX6 = some m.cls := findClass_of_methodNamed B.named
  have hlk := B.notSynchronized
  have in1 : ∀ w ∈ u_ws RX0 TX0 8, w ∈ wsX6_isNothingToDo := fun w h => List.mem_cons_of_mem _ (List.mem_append_right _ (h))
  have in3 : ∀ w ∈ u_ws RX2 TX2 7, w ∈ wsX6_isNothingToDo := fun w h => List.mem_cons_of_mem _ (List.mem_append_left _ (List.mem_append_right _ (h)))
  have b38 : ∀ (S : qs_S) (s0 : Int32) (H : Heap) (locs : List Loc) (ls : Array Slot), wp_X6_isNothingToDo_b38 g.2.2.2.2.2.2.1 g.2.2.2.2.2.2.2 post S s0 → qs_Gd g (qs_F g SA s.heap.size) s S H locs → lv_has ls 2 [] → W p l e (headSpec wsX6_isNothingToDo ({ frames := 1, cells := 0, slots := 0, locals := 22 } : Room)).room s m (([.ref a0z] : List Value)).toArray below meth c H locs 0 0 (MQ below (qs_Qi g (qs_F g SA s.heap.size) post) (([.ref a0z] : List Value)).toArray s 0 0 (qs_F g SA s.heap.size)) (F0 m 38 ls [.int s0]) := by
    intro S s0 H locs ls h hG hl
    unfold wp_X6_isNothingToDo_b38 at h
    obtain ⟨z1, h⟩ := h
    exact qe_z hx hb hr hlk z1 hG h (Nat.le_refl _) (Nat.le_refl _) dX6_isNothingToDo_38
  have b33 : ∀ (S : qs_S) (H : Heap) (locs : List Loc) (ls : Array Slot), wp_X6_isNothingToDo_b33 g.2.2.2.2.2.2.1 g.2.2.2.2.2.2.2 post S → qs_Gd g (qs_F g SA s.heap.size) s S H locs → lv_has ls 2 [] → W p l e (headSpec wsX6_isNothingToDo ({ frames := 1, cells := 0, slots := 0, locals := 22 } : Room)).room s m (([.ref a0z] : List Value)).toArray below meth c H locs 0 0 (MQ below (qs_Qi g (qs_F g SA s.heap.size) post) (([.ref a0z] : List Value)).toArray s 0 0 (qs_F g SA s.heap.size)) (F0 m 33 ls []) := by
    intro S H locs ls h hG hl
    unfold wp_X6_isNothingToDo_b33 at h
    refine lv_iconst (v := (1 : Int32)) hx hb dX6_isNothingToDo_33 (by decide +kernel) ?_
    refine lv_goto (tgt := 38) hx hb dX6_isNothingToDo_34 (by decide) ?_
    exact b38 S (1 : Int32) _ _ ls h hG (lv_sub hl [] rfl)
  have b37 : ∀ (S : qs_S) (H : Heap) (locs : List Loc) (ls : Array Slot), wp_X6_isNothingToDo_b37 g.2.2.2.2.2.2.1 g.2.2.2.2.2.2.2 post S → qs_Gd g (qs_F g SA s.heap.size) s S H locs → lv_has ls 2 [] → W p l e (headSpec wsX6_isNothingToDo ({ frames := 1, cells := 0, slots := 0, locals := 22 } : Room)).room s m (([.ref a0z] : List Value)).toArray below meth c H locs 0 0 (MQ below (qs_Qi g (qs_F g SA s.heap.size) post) (([.ref a0z] : List Value)).toArray s 0 0 (qs_F g SA s.heap.size)) (F0 m 37 ls []) := by
    intro S H locs ls h hG hl
    unfold wp_X6_isNothingToDo_b37 at h
    refine lv_iconst (v := (0 : Int32)) hx hb dX6_isNothingToDo_37 (by decide +kernel) ?_
    exact b38 S (0 : Int32) _ _ ls h hG (lv_sub hl [] rfl)
  have hl := lv_entry ([.ref a0z]) (n := 2) (Nat.le_of_ble_eq_true rfl)
  rw [lg_entry_eq]
  generalize (lg_sl ([.ref a0z]) ++ List.replicate (2 - (lg_sl ([.ref a0z])).length) Slot.unset).toArray = ls at hl ⊢
  have hl : lv_has ls 2 [(0, .ref a0z)] := hl
  unfold wp_X6_isNothingToDo at h
  refine lv_aload_n hx hb dX6_isNothingToDo_0 rfl (lv_at hl 0 rfl) ?_
  obtain ⟨⟨hL2, fK3⟩, h⟩ := h
  obtain ⟨q4, eq4, h⟩ := h
  refine qr_get (C := RX2) (T := TX2) (N := 7) (ci := 3) hx hb hts in3 hown hG hL2 fK3 (by decide) rfl 2 (by decide) rfl (hts (.fieldLink RX6 185 "QuayMesh$Message" "box" "LQuayMesh$Box;") (List.mem_of_getElem? (i := 1) rfl)) (fun _ h9 => h9) (v := .ref q4) (qs_rf eq4) dX6_isNothingToDo_1 ?_
  refine lv_astore_n (lv' := [(1, .ref q4), (0, .ref a0z)]) hx hb dX6_isNothingToDo_4 rfl hl (by decide) rfl (fun ls hl => ?_)
  refine lv_aload_n hx hb dX6_isNothingToDo_5 rfl (lv_at hl 0 rfl) ?_
  obtain ⟨⟨hL5, fK6⟩, h⟩ := h
  refine qr_get (C := RX0) (T := TX0) (N := 8) (ci := 1) hx hb hts in1 hown hG hL5 fK6 (by decide) rfl 2 (by decide) rfl (hts (.fieldLink RX6 105 "QuayMesh$Box" "where" "I") (List.mem_of_getElem? (i := 2) rfl)) (fun _ h9 => h9) (v := .int (qs_I SA 2 q4)) rfl dX6_isNothingToDo_6 ?_
  refine lv_topi (fun v7 ev7 => ?_)
  have h := h v7 ev7
  refine lv_iconst (v := (4 : Int32)) hx hb dX6_isNothingToDo_9 (by decide +kernel) ?_
  refine lv_icmp_eq (tgt := 33) hx hb dX6_isNothingToDo_10 (by decide) (fun c8 => ?_) (fun c8 => ?_)
  · have h := h.1 c8
    exact b33 SA _ _ ls h hG (lv_sub hl [] rfl)
  · have h := h.2 c8
    refine lv_aload_n hx hb dX6_isNothingToDo_13 rfl (lv_at hl 1 rfl) ?_
    refine qr_get (C := RX2) (T := TX2) (N := 7) (ci := 3) hx hb hts in3 hown hG hL2 fK3 (by decide) rfl 1 (by decide) rfl (hts (.fieldLink RX6 271 "QuayMesh$Message" "kind" "I") (List.mem_of_getElem? (i := 3) rfl)) (fun _ h9 => h9) (v := .int (qs_I SA 1 a0z)) rfl dX6_isNothingToDo_14 ?_
    refine lv_topi (fun v9 ev9 => ?_)
    have h := h v9 ev9
    refine lv_iconst (v := (1 : Int32)) hx hb dX6_isNothingToDo_17 (by decide +kernel) ?_
    refine lv_icmp_ne (tgt := 37) hx hb dX6_isNothingToDo_18 (by decide) (fun c10 => ?_) (fun c10 => ?_)
    · have h := h.1 c10
      exact b37 SA _ _ ls h hG (lv_sub hl [] rfl)
    · have h := h.2 c10
      refine lv_aload_n hx hb dX6_isNothingToDo_21 rfl (lv_at hl 0 rfl) ?_
      refine lv_iconst (v := (3 : Int32)) hx hb dX6_isNothingToDo_22 (by decide +kernel) ?_
      refine lv_aload_n hx hb dX6_isNothingToDo_23 rfl (lv_at hl 1 rfl) ?_
      refine qr_get (C := RX2) (T := TX2) (N := 7) (ci := 3) hx hb hts in3 hown hG hL2 fK3 (by decide) rfl 3 (by decide) rfl (hts (.fieldLink RX6 274 "QuayMesh$Message" "target" "I") (List.mem_of_getElem? (i := 4) rfl)) (fun _ h9 => h9) (v := .int (qs_I SA 3 a0z)) rfl dX6_isNothingToDo_24 ?_
      refine lv_topi (fun v11 ev11 => ?_)
      have h := h v11 ev11
      refine qc_i hG (va_runV (As := [.int (3 : Int32), .int v11]) (rest := []) ⟨hx, hb, hml, hown, hts⟩ (c_X0_isAt l g _ SA q4 (3 : Int32) v11 h) (cwV 2 hts gX6_isNothingToDo_X0_isAt rfl rfl rfl (by decide +kernel) ⟨(Nat.le_of_ble_eq_true rfl), (Nat.le_of_ble_eq_true rfl)⟩) ⟨qs_Pc.blind _ _ _ _, hG.recv hL5 fK6 (by decide) rfl, hG.pre _⟩ rfl rfl hl.1 rfl (lv_room (Nat.le_of_ble_eq_true rfl)) dX6_isNothingToDo_27 ⟨Nat.zero_le _, Nat.zero_le _⟩) (fun v15 S14 H locs h hG => ?_)
      refine lv_if_eq (tgt := 37) hx hb dX6_isNothingToDo_30 (by decide) (fun c16 => ?_) (fun c16 => ?_)
      · have h := h.1 c16
        exact b37 S14 _ _ ls h hG (lv_sub hl [] rfl)
      · have h := h.2 c16
        exact b33 S14 _ _ ls h hG (lv_sub hl [] rfl)
def wp_X6_isUppermost_b23 (t0 m9 : Nat) (post : Int32 → qs_S → Prop) (S : qs_S) (s0 : Int32) : Prop := (s0 = 0 ∨ s0 = 1) ∧ post s0 S
def wp_X6_isUppermost (t0 m9 : Nat) (post : Int32 → qs_S → Prop) (SA : qs_S) (a0z : Nat) (a1z : Nat) : Prop := (a1z ∈ qs_L SA ∧ qs_K SA a1z = 1) ∧ (∀ v4 : Int32, v4 = qs_I SA 4 a1z → ∀ v5 : Int32, v5 = qs_I SA 3 a1z → (a0z ∈ qs_L SA ∧ qs_K SA a0z = 6) ∧ (wp_X6_countAt t0 m9 (fun (v11 : Int32) (S10 : qs_S) => ∀ v12 : Int32, v12 = v11 - (1 : Int32) → (¬ v4 = v12 → (wp_X6_isUppermost_b23 t0 m9 post S10 (0 : Int32))) ∧ (v4 = v12 → (wp_X6_isUppermost_b23 t0 m9 post S10 (1 : Int32)))) SA a0z (3 : Int32) v5))
set_option maxHeartbeats 4000000 in
set_option maxRecDepth 100000 in
theorem c_X6_isUppermost (l : Launch) (g : qs_G) (sz : Nat) (SA : qs_S) (a0z : Nat) (a1z : Nat) {post : Int32 → qs_S → Prop} (h : wp_X6_isUppermost g.2.2.2.2.2.2.1 g.2.2.2.2.2.2.2 post SA a0z a1z) : Met l yX6_isUppermost wsX6_isUppermost ({ frames := 4, cells := 0, slots := 0, locals := 88 } : Room) (qs_Pc g sz SA [.ref a0z, .ref a1z]) (qs_Qi g (qs_F g SA sz) post) 0 0 (qs_F g SA sz) := by
  refine Met.ofW (cc := cX6_isUppermost) (maxL := 2) (ret := (some .boolean)) (by decide +kernel) rfl ?_
  intro p e s m args below meth c s₁ B hml hv
  obtain ⟨rfl, hsz, hG⟩ := qs_Gd.start hv
  subst hsz
  have hx := B.exec
  have hb := B.bytes
  have hr := B.returns
  have hts := atoms_spec (ws := wsX6_isUppermost) B.pre
  have hown : s.vm.findClass RX6 = some m.cls := findClass_of_methodNamed B.named
  have hlk := B.notSynchronized
  have in0 : ∀ w ∈ u_ws RJx4a65c TJx4a65c 3, w ∈ wsX6_isUppermost := fun w h => List.mem_cons_of_mem _ (List.mem_append_right _ (h))
  have in1 : ∀ w ∈ u_ws RX0 TX0 8, w ∈ wsX6_isUppermost := fun w h => List.mem_cons_of_mem _ (List.mem_append_left _ (List.mem_append_left _ (List.mem_append_right _ (h))))
  have in6 : ∀ w ∈ u_ws RX6 TX6 8, w ∈ wsX6_isUppermost := fun w h => List.mem_cons_of_mem _ (List.mem_append_left _ (List.mem_append_right _ (h)))
  have b23 : ∀ (S : qs_S) (s0 : Int32) (H : Heap) (locs : List Loc) (ls : Array Slot), wp_X6_isUppermost_b23 g.2.2.2.2.2.2.1 g.2.2.2.2.2.2.2 post S s0 → qs_Gd g (qs_F g SA s.heap.size) s S H locs → lv_has ls 2 [] → W p l e (headSpec wsX6_isUppermost ({ frames := 4, cells := 0, slots := 0, locals := 88 } : Room)).room s m (([.ref a0z, .ref a1z] : List Value)).toArray below meth c H locs 0 0 (MQ below (qs_Qi g (qs_F g SA s.heap.size) post) (([.ref a0z, .ref a1z] : List Value)).toArray s 0 0 (qs_F g SA s.heap.size)) (F0 m 23 ls [.int s0]) := by
    intro S s0 H locs ls h hG hl
    unfold wp_X6_isUppermost_b23 at h
    obtain ⟨z1, h⟩ := h
    exact qe_z hx hb hr hlk z1 hG h (Nat.le_refl _) (Nat.le_refl _) dX6_isUppermost_23
  have hl := lv_entry ([.ref a0z, .ref a1z]) (n := 2) (Nat.le_of_ble_eq_true rfl)
  rw [lg_entry_eq]
  generalize (lg_sl ([.ref a0z, .ref a1z]) ++ List.replicate (2 - (lg_sl ([.ref a0z, .ref a1z])).length) Slot.unset).toArray = ls at hl ⊢
  have hl : lv_has ls 2 [(0, .ref a0z), (1, .ref a1z)] := hl
  unfold wp_X6_isUppermost at h
  refine lv_aload_n hx hb dX6_isUppermost_0 rfl (lv_at hl 1 rfl) ?_
  obtain ⟨⟨hL2, fK3⟩, h⟩ := h
  refine qr_get (C := RX0) (T := TX0) (N := 8) (ci := 1) hx hb hts in1 hown hG hL2 fK3 (by decide) rfl 4 (by decide) rfl (hts (.fieldLink RX6 281 "QuayMesh$Box" "level" "I") (List.mem_of_getElem? (i := 1) rfl)) (fun _ h9 => h9) (v := .int (qs_I SA 4 a1z)) rfl dX6_isUppermost_1 ?_
  refine lv_topi (fun v4 ev4 => ?_)
  have h := h v4 ev4
  refine lv_aload_n hx hb dX6_isUppermost_4 rfl (lv_at hl 0 rfl) ?_
  refine lv_iconst (v := (3 : Int32)) hx hb dX6_isUppermost_5 (by decide +kernel) ?_
  refine lv_aload_n hx hb dX6_isUppermost_6 rfl (lv_at hl 1 rfl) ?_
  refine qr_get (C := RX0) (T := TX0) (N := 8) (ci := 1) hx hb hts in1 hown hG hL2 fK3 (by decide) rfl 3 (by decide) rfl (hts (.fieldLink RX6 284 "QuayMesh$Box" "spot" "I") (List.mem_of_getElem? (i := 2) rfl)) (fun _ h9 => h9) (v := .int (qs_I SA 3 a1z)) rfl dX6_isUppermost_7 ?_
  refine lv_topi (fun v5 ev5 => ?_)
  have h := h v5 ev5
  obtain ⟨⟨hL8, fK9⟩, h⟩ := h
  refine qc_i hG (va_runV (As := [.int (3 : Int32), .int v5]) (rest := [.int v4]) ⟨hx, hb, hml, hown, hts⟩ (c_X6_countAt l g _ SA a0z (3 : Int32) v5 h) (cwV 2 hts gX6_isUppermost_X6_countAt rfl rfl rfl (by decide +kernel) ⟨(Nat.le_of_ble_eq_true rfl), (Nat.le_of_ble_eq_true rfl)⟩) ⟨qs_Pc.blind _ _ _ _, hG.recv hL8 fK9 (by decide) rfl, hG.pre _⟩ rfl rfl hl.1 rfl (lv_room (Nat.le_of_ble_eq_true rfl)) dX6_isUppermost_10 ⟨Nat.zero_le _, Nat.zero_le _⟩) (fun v11 S10 H locs h hG => ?_)
  refine lv_iconst (v := (1 : Int32)) hx hb dX6_isUppermost_13 (by decide +kernel) ?_
  refine lv_isub hx hb dX6_isUppermost_14 ?_
  refine lv_topi (fun v12 ev12 => ?_)
  have h := h v12 ev12
  refine lv_icmp_ne (tgt := 22) hx hb dX6_isUppermost_15 (by decide) (fun c13 => ?_) (fun c13 => ?_)
  · have h := h.1 c13
    refine lv_iconst (v := (0 : Int32)) hx hb dX6_isUppermost_22 (by decide +kernel) ?_
    exact b23 S10 (0 : Int32) _ _ ls h hG (lv_sub hl [] rfl)
  · have h := h.2 c13
    refine lv_iconst (v := (1 : Int32)) hx hb dX6_isUppermost_18 (by decide +kernel) ?_
    refine lv_goto (tgt := 23) hx hb dX6_isUppermost_19 (by decide) ?_
    exact b23 S10 (1 : Int32) _ _ ls h hG (lv_sub hl [] rfl)
def wp_X6_canTake_b48 (t0 m9 : Nat) (post : Int32 → qs_S → Prop) (S : qs_S) (s0 : Int32) : Prop := (s0 = 0 ∨ s0 = 1) ∧ post s0 S
def wp_X6_canTake_b47 (t0 m9 : Nat) (post : Int32 → qs_S → Prop) (S : qs_S) : Prop := wp_X6_canTake_b48 t0 m9 post S (0 : Int32)
def wp_X6_canTake_b29 (t0 m9 : Nat) (post : Int32 → qs_S → Prop) (S : qs_S) (a0 : Nat) (x1 : Int32) (s0 : Int32) : Prop := (s0 = 0 → (wp_X6_canTake_b47 t0 m9 post S)) ∧ (¬ s0 = 0 → ((a0 ∈ qs_L S ∧ qs_K S a0 = 6) ∧ (wp_X6_countAt t0 m9 (fun (v8 : Int32) (S7 : qs_S) => (¬ v8 = 0 → (wp_X6_canTake_b47 t0 m9 post S7)) ∧ (v8 = 0 → (wp_X6_canTake_b48 t0 m9 post S7 (1 : Int32)))) S a0 (2 : Int32) x1)))
def wp_X6_canTake_b24 (t0 m9 : Nat) (post : Int32 → qs_S → Prop) (S : qs_S) (a0 : Nat) (x1 : Int32) : Prop := wp_X6_canTake_b29 t0 m9 post S a0 x1 (1 : Int32)
def wp_X6_canTake_b28 (t0 m9 : Nat) (post : Int32 → qs_S → Prop) (S : qs_S) (a0 : Nat) (x1 : Int32) : Prop := wp_X6_canTake_b29 t0 m9 post S a0 x1 (0 : Int32)
def wp_X6_canTake (t0 m9 : Nat) (post : Int32 → qs_S → Prop) (SA : qs_S) (a0z : Nat) (x1z : Int32) (a2z : Nat) : Prop := (a2z ∈ qs_L SA ∧ qs_K SA a2z = 1) ∧ (∀ v12 : Int32, v12 = qs_I SA 2 a2z → (v12 = (1 : Int32) → (wp_X6_canTake_b24 t0 m9 post SA a0z x1z)) ∧ (¬ v12 = (1 : Int32) → (∀ v14 : Int32, v14 = qs_I SA 2 a2z → (¬ v14 = (3 : Int32) → (wp_X6_canTake_b28 t0 m9 post SA a0z x1z)) ∧ (v14 = (3 : Int32) → ((a0z ∈ qs_L SA ∧ qs_K SA a0z = 6) ∧ (wp_X6_isUppermost t0 m9 (fun (v21 : Int32) (S20 : qs_S) => (v21 = 0 → (wp_X6_canTake_b28 t0 m9 post S20 a0z x1z)) ∧ (¬ v21 = 0 → (wp_X6_canTake_b24 t0 m9 post S20 a0z x1z))) SA a0z a2z))))))
set_option maxHeartbeats 4000000 in
set_option maxRecDepth 100000 in
theorem c_X6_canTake (l : Launch) (g : qs_G) (sz : Nat) (SA : qs_S) (a0z : Nat) (x1z : Int32) (a2z : Nat) {post : Int32 → qs_S → Prop} (h : wp_X6_canTake g.2.2.2.2.2.2.1 g.2.2.2.2.2.2.2 post SA a0z x1z a2z) : Met l yX6_canTake wsX6_canTake ({ frames := 5, cells := 0, slots := 0, locals := 109 } : Room) (qs_Pc g sz SA [.ref a0z, .int x1z, .ref a2z]) (qs_Qi g (qs_F g SA sz) post) 0 0 (qs_F g SA sz) := by
  refine Met.ofW (cc := cX6_canTake) (maxL := 4) (ret := (some .boolean)) (by decide +kernel) rfl ?_
  intro p e s m args below meth c s₁ B hml hv
  obtain ⟨rfl, hsz, hG⟩ := qs_Gd.start hv
  subst hsz
  have hx := B.exec
  have hb := B.bytes
  have hr := B.returns
  have hts := atoms_spec (ws := wsX6_canTake) B.pre
  have hown : s.vm.findClass RX6 = some m.cls := findClass_of_methodNamed B.named
  have hlk := B.notSynchronized
  have in0 : ∀ w ∈ u_ws RJx4a65c TJx4a65c 3, w ∈ wsX6_canTake := fun w h => List.mem_cons_of_mem _ (List.mem_append_right _ (h))
  have in1 : ∀ w ∈ u_ws RX0 TX0 8, w ∈ wsX6_canTake := fun w h => List.mem_cons_of_mem _ (List.mem_append_left _ (List.mem_append_left _ (List.mem_append_right _ (h))))
  have in6 : ∀ w ∈ u_ws RX6 TX6 8, w ∈ wsX6_canTake := fun w h => List.mem_cons_of_mem _ (List.mem_append_left _ (List.mem_append_right _ (h)))
  have b48 : ∀ (S : qs_S) (s0 : Int32) (H : Heap) (locs : List Loc) (ls : Array Slot), wp_X6_canTake_b48 g.2.2.2.2.2.2.1 g.2.2.2.2.2.2.2 post S s0 → qs_Gd g (qs_F g SA s.heap.size) s S H locs → lv_has ls 4 [] → W p l e (headSpec wsX6_canTake ({ frames := 5, cells := 0, slots := 0, locals := 109 } : Room)).room s m (([.ref a0z, .int x1z, .ref a2z] : List Value)).toArray below meth c H locs 0 0 (MQ below (qs_Qi g (qs_F g SA s.heap.size) post) (([.ref a0z, .int x1z, .ref a2z] : List Value)).toArray s 0 0 (qs_F g SA s.heap.size)) (F0 m 48 ls [.int s0]) := by
    intro S s0 H locs ls h hG hl
    unfold wp_X6_canTake_b48 at h
    obtain ⟨z1, h⟩ := h
    exact qe_z hx hb hr hlk z1 hG h (Nat.le_refl _) (Nat.le_refl _) dX6_canTake_48
  have b47 : ∀ (S : qs_S) (H : Heap) (locs : List Loc) (ls : Array Slot), wp_X6_canTake_b47 g.2.2.2.2.2.2.1 g.2.2.2.2.2.2.2 post S → qs_Gd g (qs_F g SA s.heap.size) s S H locs → lv_has ls 4 [] → W p l e (headSpec wsX6_canTake ({ frames := 5, cells := 0, slots := 0, locals := 109 } : Room)).room s m (([.ref a0z, .int x1z, .ref a2z] : List Value)).toArray below meth c H locs 0 0 (MQ below (qs_Qi g (qs_F g SA s.heap.size) post) (([.ref a0z, .int x1z, .ref a2z] : List Value)).toArray s 0 0 (qs_F g SA s.heap.size)) (F0 m 47 ls []) := by
    intro S H locs ls h hG hl
    unfold wp_X6_canTake_b47 at h
    refine lv_iconst (v := (0 : Int32)) hx hb dX6_canTake_47 (by decide +kernel) ?_
    exact b48 S (0 : Int32) _ _ ls h hG (lv_sub hl [] rfl)
  have b29 : ∀ (S : qs_S) (a0 : Nat) (x1 : Int32) (s0 : Int32) (H : Heap) (locs : List Loc) (ls : Array Slot), wp_X6_canTake_b29 g.2.2.2.2.2.2.1 g.2.2.2.2.2.2.2 post S a0 x1 s0 → qs_Gd g (qs_F g SA s.heap.size) s S H locs → lv_has ls 4 [(0, .ref a0), (1, .int x1)] → W p l e (headSpec wsX6_canTake ({ frames := 5, cells := 0, slots := 0, locals := 109 } : Room)).room s m (([.ref a0z, .int x1z, .ref a2z] : List Value)).toArray below meth c H locs 0 0 (MQ below (qs_Qi g (qs_F g SA s.heap.size) post) (([.ref a0z, .int x1z, .ref a2z] : List Value)).toArray s 0 0 (qs_F g SA s.heap.size)) (F0 m 29 ls [.int s0]) := by
    intro S a0 x1 s0 H locs ls h hG hl
    unfold wp_X6_canTake_b29 at h
    refine lv_istore_n (lv' := [(3, .int s0), (0, .ref a0), (1, .int x1)]) hx hb dX6_canTake_29 rfl hl (by decide) rfl (fun ls hl => ?_)
    refine lv_iload_n hx hb dX6_canTake_30 rfl (lv_at hl 0 rfl) ?_
    refine lv_if_eq (tgt := 47) hx hb dX6_canTake_31 (by decide) (fun c2 => ?_) (fun c2 => ?_)
    · have h := h.1 c2
      exact b47 S _ _ ls h hG (lv_sub hl [] rfl)
    · have h := h.2 c2
      refine lv_aload_n hx hb dX6_canTake_34 rfl (lv_at hl 1 rfl) ?_
      refine lv_iconst (v := (2 : Int32)) hx hb dX6_canTake_35 (by decide +kernel) ?_
      refine lv_iload_n hx hb dX6_canTake_36 rfl (lv_at hl 2 rfl) ?_
      obtain ⟨⟨hL5, fK6⟩, h⟩ := h
      refine qc_i hG (va_runV (As := [.int (2 : Int32), .int x1]) (rest := []) ⟨hx, hb, hml, hown, hts⟩ (c_X6_countAt l g _ S a0 (2 : Int32) x1 h) (cwV 2 hts gX6_canTake_X6_countAt rfl rfl rfl (by decide +kernel) ⟨(Nat.le_of_ble_eq_true rfl), (Nat.le_of_ble_eq_true rfl)⟩) ⟨qs_Pc.blind _ _ _ _, hG.recv hL5 fK6 (by decide) rfl, hG.pre _⟩ rfl rfl hl.1 rfl (lv_room (Nat.le_of_ble_eq_true rfl)) dX6_canTake_37 ⟨Nat.zero_le _, Nat.zero_le _⟩) (fun v8 S7 H locs h hG => ?_)
      refine lv_if_ne (tgt := 47) hx hb dX6_canTake_40 (by decide) (fun c9 => ?_) (fun c9 => ?_)
      · have h := h.1 c9
        exact b47 S7 _ _ ls h hG (lv_sub hl [] rfl)
      · have h := h.2 c9
        refine lv_iconst (v := (1 : Int32)) hx hb dX6_canTake_43 (by decide +kernel) ?_
        refine lv_goto (tgt := 48) hx hb dX6_canTake_44 (by decide) ?_
        exact b48 S7 (1 : Int32) _ _ ls h hG (lv_sub hl [] rfl)
  have b24 : ∀ (S : qs_S) (a0 : Nat) (x1 : Int32) (H : Heap) (locs : List Loc) (ls : Array Slot), wp_X6_canTake_b24 g.2.2.2.2.2.2.1 g.2.2.2.2.2.2.2 post S a0 x1 → qs_Gd g (qs_F g SA s.heap.size) s S H locs → lv_has ls 4 [(0, .ref a0), (1, .int x1)] → W p l e (headSpec wsX6_canTake ({ frames := 5, cells := 0, slots := 0, locals := 109 } : Room)).room s m (([.ref a0z, .int x1z, .ref a2z] : List Value)).toArray below meth c H locs 0 0 (MQ below (qs_Qi g (qs_F g SA s.heap.size) post) (([.ref a0z, .int x1z, .ref a2z] : List Value)).toArray s 0 0 (qs_F g SA s.heap.size)) (F0 m 24 ls []) := by
    intro S a0 x1 H locs ls h hG hl
    unfold wp_X6_canTake_b24 at h
    refine lv_iconst (v := (1 : Int32)) hx hb dX6_canTake_24 (by decide +kernel) ?_
    refine lv_goto (tgt := 29) hx hb dX6_canTake_25 (by decide) ?_
    exact b29 S a0 x1 (1 : Int32) _ _ ls h hG (lv_sub hl [0, 1] rfl)
  have b28 : ∀ (S : qs_S) (a0 : Nat) (x1 : Int32) (H : Heap) (locs : List Loc) (ls : Array Slot), wp_X6_canTake_b28 g.2.2.2.2.2.2.1 g.2.2.2.2.2.2.2 post S a0 x1 → qs_Gd g (qs_F g SA s.heap.size) s S H locs → lv_has ls 4 [(0, .ref a0), (1, .int x1)] → W p l e (headSpec wsX6_canTake ({ frames := 5, cells := 0, slots := 0, locals := 109 } : Room)).room s m (([.ref a0z, .int x1z, .ref a2z] : List Value)).toArray below meth c H locs 0 0 (MQ below (qs_Qi g (qs_F g SA s.heap.size) post) (([.ref a0z, .int x1z, .ref a2z] : List Value)).toArray s 0 0 (qs_F g SA s.heap.size)) (F0 m 28 ls []) := by
    intro S a0 x1 H locs ls h hG hl
    unfold wp_X6_canTake_b28 at h
    refine lv_iconst (v := (0 : Int32)) hx hb dX6_canTake_28 (by decide +kernel) ?_
    exact b29 S a0 x1 (0 : Int32) _ _ ls h hG (lv_sub hl [0, 1] rfl)
  have hl := lv_entry ([.ref a0z, .int x1z, .ref a2z]) (n := 4) (Nat.le_of_ble_eq_true rfl)
  rw [lg_entry_eq]
  generalize (lg_sl ([.ref a0z, .int x1z, .ref a2z]) ++ List.replicate (4 - (lg_sl ([.ref a0z, .int x1z, .ref a2z])).length) Slot.unset).toArray = ls at hl ⊢
  have hl : lv_has ls 4 [(0, .ref a0z), (1, .int x1z), (2, .ref a2z)] := hl
  unfold wp_X6_canTake at h
  refine lv_aload_n hx hb dX6_canTake_0 rfl (lv_at hl 2 rfl) ?_
  obtain ⟨⟨hL10, fK11⟩, h⟩ := h
  refine qr_get (C := RX0) (T := TX0) (N := 8) (ci := 1) hx hb hts in1 hown hG hL10 fK11 (by decide) rfl 2 (by decide) rfl (hts (.fieldLink RX6 105 "QuayMesh$Box" "where" "I") (List.mem_of_getElem? (i := 1) rfl)) (fun _ h9 => h9) (v := .int (qs_I SA 2 a2z)) rfl dX6_canTake_1 ?_
  refine lv_topi (fun v12 ev12 => ?_)
  have h := h v12 ev12
  refine lv_iconst (v := (1 : Int32)) hx hb dX6_canTake_4 (by decide +kernel) ?_
  refine lv_icmp_eq (tgt := 24) hx hb dX6_canTake_5 (by decide) (fun c13 => ?_) (fun c13 => ?_)
  · have h := h.1 c13
    exact b24 SA a0z x1z _ _ ls h hG (lv_sub hl [0, 1] rfl)
  · have h := h.2 c13
    refine lv_aload_n hx hb dX6_canTake_8 rfl (lv_at hl 2 rfl) ?_
    refine qr_get (C := RX0) (T := TX0) (N := 8) (ci := 1) hx hb hts in1 hown hG hL10 fK11 (by decide) rfl 2 (by decide) rfl (hts (.fieldLink RX6 105 "QuayMesh$Box" "where" "I") (List.mem_of_getElem? (i := 1) rfl)) (fun _ h9 => h9) (v := .int (qs_I SA 2 a2z)) rfl dX6_canTake_9 ?_
    refine lv_topi (fun v14 ev14 => ?_)
    have h := h v14 ev14
    refine lv_iconst (v := (3 : Int32)) hx hb dX6_canTake_12 (by decide +kernel) ?_
    refine lv_icmp_ne (tgt := 28) hx hb dX6_canTake_13 (by decide) (fun c15 => ?_) (fun c15 => ?_)
    · have h := h.1 c15
      exact b28 SA a0z x1z _ _ ls h hG (lv_sub hl [0, 1] rfl)
    · have h := h.2 c15
      refine lv_aload_n hx hb dX6_canTake_16 rfl (lv_at hl 0 rfl) ?_
      refine lv_aload_n hx hb dX6_canTake_17 rfl (lv_at hl 2 rfl) ?_
      obtain ⟨⟨hL18, fK19⟩, h⟩ := h
      refine qc_i hG (va_runV (As := [.ref a2z]) (rest := []) ⟨hx, hb, hml, hown, hts⟩ (c_X6_isUppermost l g _ SA a0z a2z h) (cwV 1 hts gX6_canTake_X6_isUppermost rfl rfl rfl (by decide +kernel) ⟨(Nat.le_of_ble_eq_true rfl), (Nat.le_of_ble_eq_true rfl)⟩) ⟨qs_Pc.blind _ _ _ _, hG.recv hL18 fK19 (by decide) rfl, hG.pre _⟩ rfl rfl hl.1 rfl (lv_room (Nat.le_of_ble_eq_true rfl)) dX6_canTake_18 ⟨Nat.zero_le _, Nat.zero_le _⟩) (fun v21 S20 H locs h hG => ?_)
      refine lv_if_eq (tgt := 28) hx hb dX6_canTake_21 (by decide) (fun c22 => ?_) (fun c22 => ?_)
      · have h := h.1 c22
        exact b28 S20 a0z x1z _ _ ls h hG (lv_sub hl [0, 1] rfl)
      · have h := h.2 c22
        exact b24 S20 a0z x1z _ _ ls h hG (lv_sub hl [0, 1] rfl)
def wp_X6_canPutDown_b26 (t0 m9 : Nat) (post : Int32 → qs_S → Prop) (S : qs_S) (s0 : Int32) : Prop := (s0 = 0 ∨ s0 = 1) ∧ post s0 S
def wp_X6_canPutDown (t0 m9 : Nat) (post : Int32 → qs_S → Prop) (SA : qs_S) (a0z : Nat) (a1z : Nat) : Prop := (a1z ∈ qs_L SA ∧ qs_K SA a1z = 3) ∧ (∀ v4 : Int32, v4 = qs_I SA 1 a1z → (¬ v4 = (1 : Int32) → (∃ q6 : Nat, qs_R SA 2 a1z = some q6 ∧ (∀ v7 : Int32, v7 = qs_I SA 3 a1z → (a0z ∈ qs_L SA ∧ qs_K SA a0z = 6) ∧ (∀ v10 : Int32, v10 = qs_I SA 6 a0z → (q6 ∈ qs_L SA ∧ qs_K SA q6 = 1) ∧ (wp_X0_isBookedAt t0 m9 (fun (v16 : Int32) (S15 : qs_S) => (v16 = 0 ∨ v16 = 1) ∧ post v16 S15) SA q6 v7 v10))))) ∧ (v4 = (1 : Int32) → (∀ v18 : Int32, v18 = qs_I SA 3 a1z → (a0z ∈ qs_L SA ∧ qs_K SA a0z = 6) ∧ (wp_X6_countAt t0 m9 (fun (v24 : Int32) (S23 : qs_S) => ((4 : Int32) ≤ v24 → (wp_X6_canPutDown_b26 t0 m9 post S23 (0 : Int32))) ∧ (¬ (4 : Int32) ≤ v24 → (wp_X6_canPutDown_b26 t0 m9 post S23 (1 : Int32)))) SA a0z (3 : Int32) v18))))
set_option maxHeartbeats 4000000 in
set_option maxRecDepth 100000 in
theorem c_X6_canPutDown (l : Launch) (g : qs_G) (sz : Nat) (SA : qs_S) (a0z : Nat) (a1z : Nat) {post : Int32 → qs_S → Prop} (h : wp_X6_canPutDown g.2.2.2.2.2.2.1 g.2.2.2.2.2.2.2 post SA a0z a1z) : Met l yX6_canPutDown wsX6_canPutDown ({ frames := 4, cells := 0, slots := 0, locals := 88 } : Room) (qs_Pc g sz SA [.ref a0z, .ref a1z]) (qs_Qi g (qs_F g SA sz) post) 0 0 (qs_F g SA sz) := by
  refine Met.ofW (cc := cX6_canPutDown) (maxL := 2) (ret := (some .boolean)) (by decide +kernel) rfl ?_
  intro p e s m args below meth c s₁ B hml hv
  obtain ⟨rfl, hsz, hG⟩ := qs_Gd.start hv
  subst hsz
  have hx := B.exec
  have hb := B.bytes
  have hr := B.returns
  have hts := atoms_spec (ws := wsX6_canPutDown) B.pre
  have hown : s.vm.findClass RX6 = some m.cls := findClass_of_methodNamed B.named
  have hlk := B.notSynchronized
  have in0 : ∀ w ∈ u_ws RJx4a65c TJx4a65c 3, w ∈ wsX6_canPutDown := fun w h => List.mem_cons_of_mem _ (List.mem_append_left _ (List.mem_append_right _ (h)))
  have in1 : ∀ w ∈ u_ws RX0 TX0 8, w ∈ wsX6_canPutDown := fun w h => List.mem_cons_of_mem _ (List.mem_append_right _ (h))
  have in3 : ∀ w ∈ u_ws RX2 TX2 7, w ∈ wsX6_canPutDown := fun w h => List.mem_cons_of_mem _ (List.mem_append_left _ (List.mem_append_left _ (List.mem_append_left _ (List.mem_append_right _ (h)))))
  have in6 : ∀ w ∈ u_ws RX6 TX6 8, w ∈ wsX6_canPutDown := fun w h => List.mem_cons_of_mem _ (List.mem_append_left _ (List.mem_append_left _ (List.mem_append_right _ (h))))
  have b26 : ∀ (S : qs_S) (s0 : Int32) (H : Heap) (locs : List Loc) (ls : Array Slot), wp_X6_canPutDown_b26 g.2.2.2.2.2.2.1 g.2.2.2.2.2.2.2 post S s0 → qs_Gd g (qs_F g SA s.heap.size) s S H locs → lv_has ls 2 [] → W p l e (headSpec wsX6_canPutDown ({ frames := 4, cells := 0, slots := 0, locals := 88 } : Room)).room s m (([.ref a0z, .ref a1z] : List Value)).toArray below meth c H locs 0 0 (MQ below (qs_Qi g (qs_F g SA s.heap.size) post) (([.ref a0z, .ref a1z] : List Value)).toArray s 0 0 (qs_F g SA s.heap.size)) (F0 m 26 ls [.int s0]) := by
    intro S s0 H locs ls h hG hl
    unfold wp_X6_canPutDown_b26 at h
    obtain ⟨z1, h⟩ := h
    exact qe_z hx hb hr hlk z1 hG h (Nat.le_refl _) (Nat.le_refl _) dX6_canPutDown_26
  have hl := lv_entry ([.ref a0z, .ref a1z]) (n := 2) (Nat.le_of_ble_eq_true rfl)
  rw [lg_entry_eq]
  generalize (lg_sl ([.ref a0z, .ref a1z]) ++ List.replicate (2 - (lg_sl ([.ref a0z, .ref a1z])).length) Slot.unset).toArray = ls at hl ⊢
  have hl : lv_has ls 2 [(0, .ref a0z), (1, .ref a1z)] := hl
  unfold wp_X6_canPutDown at h
  refine lv_aload_n hx hb dX6_canPutDown_0 rfl (lv_at hl 1 rfl) ?_
  obtain ⟨⟨hL2, fK3⟩, h⟩ := h
  refine qr_get (C := RX2) (T := TX2) (N := 7) (ci := 3) hx hb hts in3 hown hG hL2 fK3 (by decide) rfl 1 (by decide) rfl (hts (.fieldLink RX6 271 "QuayMesh$Message" "kind" "I") (List.mem_of_getElem? (i := 1) rfl)) (fun _ h9 => h9) (v := .int (qs_I SA 1 a1z)) rfl dX6_canPutDown_1 ?_
  refine lv_topi (fun v4 ev4 => ?_)
  have h := h v4 ev4
  refine lv_iconst (v := (1 : Int32)) hx hb dX6_canPutDown_4 (by decide +kernel) ?_
  refine lv_icmp_ne (tgt := 27) hx hb dX6_canPutDown_5 (by decide) (fun c5 => ?_) (fun c5 => ?_)
  · have h := h.1 c5
    refine lv_aload_n hx hb dX6_canPutDown_27 rfl (lv_at hl 1 rfl) ?_
    obtain ⟨q6, eq6, h⟩ := h
    refine qr_get (C := RX2) (T := TX2) (N := 7) (ci := 3) hx hb hts in3 hown hG hL2 fK3 (by decide) rfl 2 (by decide) rfl (hts (.fieldLink RX6 185 "QuayMesh$Message" "box" "LQuayMesh$Box;") (List.mem_of_getElem? (i := 3) rfl)) (fun _ h9 => h9) (v := .ref q6) (qs_rf eq6) dX6_canPutDown_28 ?_
    refine lv_aload_n hx hb dX6_canPutDown_31 rfl (lv_at hl 1 rfl) ?_
    refine qr_get (C := RX2) (T := TX2) (N := 7) (ci := 3) hx hb hts in3 hown hG hL2 fK3 (by decide) rfl 3 (by decide) rfl (hts (.fieldLink RX6 274 "QuayMesh$Message" "target" "I") (List.mem_of_getElem? (i := 2) rfl)) (fun _ h9 => h9) (v := .int (qs_I SA 3 a1z)) rfl dX6_canPutDown_32 ?_
    refine lv_topi (fun v7 ev7 => ?_)
    have h := h v7 ev7
    refine lv_aload_n hx hb dX6_canPutDown_35 rfl (lv_at hl 0 rfl) ?_
    obtain ⟨⟨hL8, fK9⟩, h⟩ := h
    refine qr_get (C := RX6) (T := TX6) (N := 8) (ci := 6) hx hb hts in6 hown hG hL8 fK9 (by decide) rfl 6 (by decide) rfl (hts (.fieldLink RX6 31 "QuayMesh" "now" "I") (List.mem_of_getElem? (i := 4) rfl)) (fun _ h9 => h9) (v := .int (qs_I SA 6 a0z)) rfl dX6_canPutDown_36 ?_
    refine lv_topi (fun v10 ev10 => ?_)
    have h := h v10 ev10
    obtain ⟨⟨hL13, fK14⟩, h⟩ := h
    refine qc_i hG (va_runV (As := [.int v7, .int v10]) (rest := []) ⟨hx, hb, hml, hown, hts⟩ (c_X0_isBookedAt l g _ SA q6 v7 v10 h) (cwV 2 hts gX6_canPutDown_X0_isBookedAt rfl rfl rfl (by decide +kernel) ⟨(Nat.le_of_ble_eq_true rfl), (Nat.le_of_ble_eq_true rfl)⟩) ⟨qs_Pc.blind _ _ _ _, hG.recv hL13 fK14 (by decide) rfl, hG.pre _⟩ rfl rfl hl.1 rfl (lv_room (Nat.le_of_ble_eq_true rfl)) dX6_canPutDown_39 ⟨Nat.zero_le _, Nat.zero_le _⟩) (fun v16 S15 H locs h hG => ?_)
    obtain ⟨z17, h⟩ := h
    exact qe_z hx hb hr hlk z17 hG h (Nat.le_refl _) (Nat.le_refl _) dX6_canPutDown_42
  · have h := h.2 c5
    refine lv_aload_n hx hb dX6_canPutDown_8 rfl (lv_at hl 0 rfl) ?_
    refine lv_iconst (v := (3 : Int32)) hx hb dX6_canPutDown_9 (by decide +kernel) ?_
    refine lv_aload_n hx hb dX6_canPutDown_10 rfl (lv_at hl 1 rfl) ?_
    refine qr_get (C := RX2) (T := TX2) (N := 7) (ci := 3) hx hb hts in3 hown hG hL2 fK3 (by decide) rfl 3 (by decide) rfl (hts (.fieldLink RX6 274 "QuayMesh$Message" "target" "I") (List.mem_of_getElem? (i := 2) rfl)) (fun _ h9 => h9) (v := .int (qs_I SA 3 a1z)) rfl dX6_canPutDown_11 ?_
    refine lv_topi (fun v18 ev18 => ?_)
    have h := h v18 ev18
    obtain ⟨⟨hL21, fK22⟩, h⟩ := h
    refine qc_i hG (va_runV (As := [.int (3 : Int32), .int v18]) (rest := []) ⟨hx, hb, hml, hown, hts⟩ (c_X6_countAt l g _ SA a0z (3 : Int32) v18 h) (cwV 2 hts gX6_canPutDown_X6_countAt rfl rfl rfl (by decide +kernel) ⟨(Nat.le_of_ble_eq_true rfl), (Nat.le_of_ble_eq_true rfl)⟩) ⟨qs_Pc.blind _ _ _ _, hG.recv hL21 fK22 (by decide) rfl, hG.pre _⟩ rfl rfl hl.1 rfl (lv_room (Nat.le_of_ble_eq_true rfl)) dX6_canPutDown_14 ⟨Nat.zero_le _, Nat.zero_le _⟩) (fun v24 S23 H locs h hG => ?_)
    refine lv_iconst (v := (4 : Int32)) hx hb dX6_canPutDown_17 (by decide +kernel) ?_
    refine lv_icmp_ge (tgt := 25) hx hb dX6_canPutDown_18 (by decide) (fun c25 => ?_) (fun c25 => ?_)
    · have h := h.1 c25
      refine lv_iconst (v := (0 : Int32)) hx hb dX6_canPutDown_25 (by decide +kernel) ?_
      exact b26 S23 (0 : Int32) _ _ ls h hG (lv_sub hl [] rfl)
    · have h := h.2 c25
      refine lv_iconst (v := (1 : Int32)) hx hb dX6_canPutDown_21 (by decide +kernel) ?_
      refine lv_goto (tgt := 26) hx hb dX6_canPutDown_22 (by decide) ?_
      exact b26 S23 (1 : Int32) _ _ ls h hG (lv_sub hl [] rfl)
def wp_X6_noteMove (t0 m9 : Nat) (post : qs_S → Prop) (SA : qs_S) (a0z : Nat) (a1z : Nat) : Prop := (a0z ∈ qs_L SA ∧ qs_K SA a0z = 6) ∧ (∀ v3 : Int32, v3 = qs_I SA 7 a0z → (a1z ∈ qs_L SA ∧ qs_K SA a1z = 3) ∧ (∀ v6 : Int32, v6 = qs_I (qs_wI SA 5 a1z v3) 7 a0z → ∀ v7 : Int32, v7 = v6 + (1 : Int32) → post (qs_wI (qs_wI SA 5 a1z v3) 7 a0z v7)))
set_option maxHeartbeats 4000000 in
set_option maxRecDepth 100000 in
theorem c_X6_noteMove (l : Launch) (g : qs_G) (sz : Nat) (SA : qs_S) (a0z : Nat) (a1z : Nat) {post : qs_S → Prop} (h : wp_X6_noteMove g.2.2.2.2.2.2.1 g.2.2.2.2.2.2.2 post SA a0z a1z) : Met l yX6_noteMove wsX6_noteMove ({ frames := 0, cells := 0, slots := 0, locals := 0 } : Room) (qs_Pc g sz SA [.ref a0z, .ref a1z]) (qs_Qv g (qs_F g SA sz) post) 0 0 (qs_F g SA sz) := by
  refine Met.ofW (cc := cX6_noteMove) (maxL := 2) (ret := none) (by decide +kernel) rfl ?_
  intro p e s m args below meth c s₁ B hml hv
  obtain ⟨rfl, hsz, hG⟩ := qs_Gd.start hv
  subst hsz
  have hx := B.exec
  have hb := B.bytes
  have hr := B.returns
  have hts := atoms_spec (ws := wsX6_noteMove) B.pre
  have hown : s.vm.findClass RX6 = some m.cls := findClass_of_methodNamed B.named
  have hlk := B.notSynchronized
  have in3 : ∀ w ∈ u_ws RX2 TX2 7, w ∈ wsX6_noteMove := fun w h => List.mem_cons_of_mem _ (List.mem_append_right _ (h))
  have in6 : ∀ w ∈ u_ws RX6 TX6 8, w ∈ wsX6_noteMove := fun w h => List.mem_cons_of_mem _ (List.mem_append_left _ (List.mem_append_right _ (h)))
  have hl := lv_entry ([.ref a0z, .ref a1z]) (n := 2) (Nat.le_of_ble_eq_true rfl)
  rw [lg_entry_eq]
  generalize (lg_sl ([.ref a0z, .ref a1z]) ++ List.replicate (2 - (lg_sl ([.ref a0z, .ref a1z])).length) Slot.unset).toArray = ls at hl ⊢
  have hl : lv_has ls 2 [(0, .ref a0z), (1, .ref a1z)] := hl
  unfold wp_X6_noteMove at h
  refine lv_aload_n hx hb dX6_noteMove_0 rfl (lv_at hl 1 rfl) ?_
  refine lv_aload_n hx hb dX6_noteMove_1 rfl (lv_at hl 0 rfl) ?_
  obtain ⟨⟨hL1, fK2⟩, h⟩ := h
  refine qr_get (C := RX6) (T := TX6) (N := 8) (ci := 6) hx hb hts in6 hown hG hL1 fK2 (by decide) rfl 7 (by decide) rfl (hts (.fieldLink RX6 35 "QuayMesh" "movesMade" "I") (List.mem_of_getElem? (i := 1) rfl)) (fun _ h9 => h9) (v := .int (qs_I SA 7 a0z)) rfl dX6_noteMove_2 ?_
  refine lv_topi (fun v3 ev3 => ?_)
  have h := h v3 ev3
  obtain ⟨⟨hL4, fK5⟩, h⟩ := h
  refine qr_putI (C := RX2) (T := TX2) (N := 7) (ci := 3) hx hb hts in3 tyX2 tyX2_ok nmX2 hown hG hL4 fK5 (by decide) rfl 5 (by decide) rfl (hts (.fieldLink RX6 293 "QuayMesh$Message" "orderMade" "I") (List.mem_of_getElem? (i := 2) rfl)) (fun _ h9 => h9) rfl (x := v3) (tyX2_ok 5 (by decide)) rfl rfl dX6_noteMove_5 (fun H locs hG => ?_)
  refine lv_aload_n hx hb dX6_noteMove_8 rfl (lv_at hl 0 rfl) ?_
  refine lv_dup hx hb dX6_noteMove_9 rfl ?_
  refine qr_get (C := RX6) (T := TX6) (N := 8) (ci := 6) hx hb hts in6 hown hG hL1 fK2 (by decide) rfl 7 (by decide) rfl (hts (.fieldLink RX6 35 "QuayMesh" "movesMade" "I") (List.mem_of_getElem? (i := 1) rfl)) (fun _ h9 => h9) (v := .int (qs_I (qs_wI SA 5 a1z v3) 7 a0z)) rfl dX6_noteMove_10 ?_
  refine lv_topi (fun v6 ev6 => ?_)
  have h := h v6 ev6
  refine lv_iconst (v := (1 : Int32)) hx hb dX6_noteMove_13 (by decide +kernel) ?_
  refine lv_iadd hx hb dX6_noteMove_14 ?_
  refine lv_topi (fun v7 ev7 => ?_)
  have h := h v7 ev7
  refine qr_putI (C := RX6) (T := TX6) (N := 8) (ci := 6) hx hb hts in6 tyX6 tyX6_ok nmX6 hown hG hL1 fK2 (by decide) rfl 7 (by decide) rfl (hts (.fieldLink RX6 35 "QuayMesh" "movesMade" "I") (List.mem_of_getElem? (i := 1) rfl)) (fun _ h9 => h9) rfl (x := v7) (tyX6_ok 7 (by decide)) rfl rfl dX6_noteMove_15 (fun H locs hG => ?_)
  exact qe_v hx hb hr hlk hG h (Nat.le_refl _) (Nat.le_refl _) dX6_noteMove_18
def wp_X6_putDown_b51 (t0 m9 : Nat) (post : qs_S → Prop) (S : qs_S) (a0 : Nat) (a1 : Nat) : Prop := (a0 ∈ qs_L S ∧ qs_K S a0 = 6) ∧ (wp_X6_noteMove t0 m9 (fun (S5 : qs_S) => post S5) S a0 a1)
def wp_X6_putDown (t0 m9 : Nat) (post : qs_S → Prop) (SA : qs_S) (a0z : Nat) (a1z : Nat) : Prop := (a1z ∈ qs_L SA ∧ qs_K SA a1z = 3) ∧ (∃ q8 : Nat, qs_R SA 2 a1z = some q8 ∧ (∀ v9 : Int32, v9 = qs_I SA 1 a1z → (¬ v9 = (1 : Int32) → (∀ v11 : Int32, v11 = qs_I SA 3 a1z → (q8 ∈ qs_L SA ∧ qs_K SA q8 = 1) ∧ (wp_X0_bring t0 m9 (fun (S16 : qs_S) => (q8 ∈ qs_L S16 ∧ qs_K S16 q8 = 1) ∧ (wp_X0_dropBooking t0 m9 (fun (S21 : qs_S) => wp_X6_putDown_b51 t0 m9 post S21 a0z a1z) S16 q8)) SA q8 (4 : Int32) v11))) ∧ (v9 = (1 : Int32) → (∀ v22 : Int32, v22 = qs_I SA 3 a1z → (a0z ∈ qs_L SA ∧ qs_K SA a0z = 6) ∧ (wp_X6_countAt t0 m9 (fun (v28 : Int32) (S27 : qs_S) => (q8 ∈ qs_L S27 ∧ qs_K S27 q8 = 1) ∧ ((a1z ∈ qs_L (qs_wI S27 4 q8 v28) ∧ qs_K (qs_wI S27 4 q8 v28) a1z = 3) ∧ (∀ v33 : Int32, v33 = qs_I (qs_wI S27 4 q8 v28) 3 a1z → wp_X0_bring t0 m9 (fun (S36 : qs_S) => wp_X6_putDown_b51 t0 m9 post S36 a0z a1z) (qs_wI S27 4 q8 v28) q8 (3 : Int32) v33))) SA a0z (3 : Int32) v22)))))
set_option maxHeartbeats 4000000 in
set_option maxRecDepth 100000 in
theorem c_X6_putDown (l : Launch) (g : qs_G) (sz : Nat) (SA : qs_S) (a0z : Nat) (a1z : Nat) {post : qs_S → Prop} (h : wp_X6_putDown g.2.2.2.2.2.2.1 g.2.2.2.2.2.2.2 post SA a0z a1z) : Met l yX6_putDown wsX6_putDown ({ frames := 4, cells := 0, slots := 0, locals := 88 } : Room) (qs_Pc g sz SA [.ref a0z, .ref a1z]) (qs_Qv g (qs_F g SA sz) post) 0 0 (qs_F g SA sz) := by
  refine Met.ofW (cc := cX6_putDown) (maxL := 3) (ret := none) (by decide +kernel) rfl ?_
  intro p e s m args below meth c s₁ B hml hv
  obtain ⟨rfl, hsz, hG⟩ := qs_Gd.start hv
  subst hsz
  have hx := B.exec
  have hb := B.bytes
  have hr := B.returns
  have hts := atoms_spec (ws := wsX6_putDown) B.pre
  have hown : s.vm.findClass RX6 = some m.cls := findClass_of_methodNamed B.named
  have hlk := B.notSynchronized
  have in0 : ∀ w ∈ u_ws RJx4a65c TJx4a65c 3, w ∈ wsX6_putDown := fun w h => List.mem_cons_of_mem _ (List.mem_append_right _ (h))
  have in1 : ∀ w ∈ u_ws RX0 TX0 8, w ∈ wsX6_putDown := fun w h => List.mem_cons_of_mem _ (List.mem_append_left _ (List.mem_append_left _ (List.mem_append_right _ (h))))
  have in3 : ∀ w ∈ u_ws RX2 TX2 7, w ∈ wsX6_putDown := fun w h => List.mem_cons_of_mem _ (List.mem_append_left _ (List.mem_append_left _ (List.mem_append_left _ (List.mem_append_right _ (h)))))
  have in6 : ∀ w ∈ u_ws RX6 TX6 8, w ∈ wsX6_putDown := fun w h => List.mem_cons_of_mem _ (List.mem_append_left _ (List.mem_append_right _ (h)))
  have b51 : ∀ (S : qs_S) (a0 : Nat) (a1 : Nat) (H : Heap) (locs : List Loc) (ls : Array Slot), wp_X6_putDown_b51 g.2.2.2.2.2.2.1 g.2.2.2.2.2.2.2 post S a0 a1 → qs_Gd g (qs_F g SA s.heap.size) s S H locs → lv_has ls 3 [(0, .ref a0), (1, .ref a1)] → W p l e (headSpec wsX6_putDown ({ frames := 4, cells := 0, slots := 0, locals := 88 } : Room)).room s m (([.ref a0z, .ref a1z] : List Value)).toArray below meth c H locs 0 0 (MQ below (qs_Qv g (qs_F g SA s.heap.size) post) (([.ref a0z, .ref a1z] : List Value)).toArray s 0 0 (qs_F g SA s.heap.size)) (F0 m 51 ls []) := by
    intro S a0 a1 H locs ls h hG hl
    unfold wp_X6_putDown_b51 at h
    refine lv_aload_n hx hb dX6_putDown_51 rfl (lv_at hl 0 rfl) ?_
    refine lv_aload_n hx hb dX6_putDown_52 rfl (lv_at hl 1 rfl) ?_
    obtain ⟨⟨hL3, fK4⟩, h⟩ := h
    refine qc_v hG (va_runV (As := [.ref a1]) (rest := []) ⟨hx, hb, hml, hown, hts⟩ (c_X6_noteMove l g _ S a0 a1 h) (cwV 1 hts gX6_putDown_X6_noteMove rfl rfl rfl (by decide +kernel) ⟨(Nat.le_of_ble_eq_true rfl), (Nat.le_of_ble_eq_true rfl)⟩) ⟨qs_Pc.blind _ _ _ _, hG.recv hL3 fK4 (by decide) rfl, hG.pre _⟩ rfl rfl hl.1 rfl (lv_room (Nat.le_of_ble_eq_true rfl)) dX6_putDown_53 ⟨Nat.zero_le _, Nat.zero_le _⟩) (fun S5 H locs h hG => ?_)
    exact qe_v hx hb hr hlk hG h (Nat.le_refl _) (Nat.le_refl _) dX6_putDown_56
  have hl := lv_entry ([.ref a0z, .ref a1z]) (n := 3) (Nat.le_of_ble_eq_true rfl)
  rw [lg_entry_eq]
  generalize (lg_sl ([.ref a0z, .ref a1z]) ++ List.replicate (3 - (lg_sl ([.ref a0z, .ref a1z])).length) Slot.unset).toArray = ls at hl ⊢
  have hl : lv_has ls 3 [(0, .ref a0z), (1, .ref a1z)] := hl
  unfold wp_X6_putDown at h
  refine lv_aload_n hx hb dX6_putDown_0 rfl (lv_at hl 1 rfl) ?_
  obtain ⟨⟨hL6, fK7⟩, h⟩ := h
  obtain ⟨q8, eq8, h⟩ := h
  refine qr_get (C := RX2) (T := TX2) (N := 7) (ci := 3) hx hb hts in3 hown hG hL6 fK7 (by decide) rfl 2 (by decide) rfl (hts (.fieldLink RX6 185 "QuayMesh$Message" "box" "LQuayMesh$Box;") (List.mem_of_getElem? (i := 1) rfl)) (fun _ h9 => h9) (v := .ref q8) (qs_rf eq8) dX6_putDown_1 ?_
  refine lv_astore_n (lv' := [(2, .ref q8), (0, .ref a0z), (1, .ref a1z)]) hx hb dX6_putDown_4 rfl hl (by decide) rfl (fun ls hl => ?_)
  refine lv_aload_n hx hb dX6_putDown_5 rfl (lv_at hl 2 rfl) ?_
  refine qr_get (C := RX2) (T := TX2) (N := 7) (ci := 3) hx hb hts in3 hown hG hL6 fK7 (by decide) rfl 1 (by decide) rfl (hts (.fieldLink RX6 271 "QuayMesh$Message" "kind" "I") (List.mem_of_getElem? (i := 2) rfl)) (fun _ h9 => h9) (v := .int (qs_I SA 1 a1z)) rfl dX6_putDown_6 ?_
  refine lv_topi (fun v9 ev9 => ?_)
  have h := h v9 ev9
  refine lv_iconst (v := (1 : Int32)) hx hb dX6_putDown_9 (by decide +kernel) ?_
  refine lv_icmp_ne (tgt := 38) hx hb dX6_putDown_10 (by decide) (fun c10 => ?_) (fun c10 => ?_)
  · have h := h.1 c10
    refine lv_aload_n hx hb dX6_putDown_38 rfl (lv_at hl 0 rfl) ?_
    refine lv_iconst (v := (4 : Int32)) hx hb dX6_putDown_39 (by decide +kernel) ?_
    refine lv_aload_n hx hb dX6_putDown_40 rfl (lv_at hl 2 rfl) ?_
    refine qr_get (C := RX2) (T := TX2) (N := 7) (ci := 3) hx hb hts in3 hown hG hL6 fK7 (by decide) rfl 3 (by decide) rfl (hts (.fieldLink RX6 274 "QuayMesh$Message" "target" "I") (List.mem_of_getElem? (i := 3) rfl)) (fun _ h9 => h9) (v := .int (qs_I SA 3 a1z)) rfl dX6_putDown_41 ?_
    refine lv_topi (fun v11 ev11 => ?_)
    have h := h v11 ev11
    obtain ⟨⟨hL14, fK15⟩, h⟩ := h
    refine qc_v hG (va_runV (As := [.int (4 : Int32), .int v11]) (rest := []) ⟨hx, hb, hml, hown, hts⟩ (c_X0_bring l g _ SA q8 (4 : Int32) v11 h) (cwV 2 hts gX6_putDown_X0_bring rfl rfl rfl (by decide +kernel) ⟨(Nat.le_of_ble_eq_true rfl), (Nat.le_of_ble_eq_true rfl)⟩) ⟨qs_Pc.blind _ _ _ _, hG.recv hL14 fK15 (by decide) rfl, hG.pre _⟩ rfl rfl hl.1 rfl (lv_room (Nat.le_of_ble_eq_true rfl)) dX6_putDown_44 ⟨Nat.zero_le _, Nat.zero_le _⟩) (fun S16 H locs h hG => ?_)
    refine lv_aload_n hx hb dX6_putDown_47 rfl (lv_at hl 0 rfl) ?_
    obtain ⟨⟨hL19, fK20⟩, h⟩ := h
    refine qc_v hG (va_runV (As := []) (rest := []) ⟨hx, hb, hml, hown, hts⟩ (c_X0_dropBooking l g _ S16 q8 h) (cwV 0 hts gX6_putDown_X0_dropBooking rfl rfl rfl (by decide +kernel) ⟨(Nat.le_of_ble_eq_true rfl), (Nat.le_of_ble_eq_true rfl)⟩) ⟨qs_Pc.blind _ _ _ _, hG.recv hL19 fK20 (by decide) rfl, hG.pre _⟩ rfl rfl hl.1 rfl (lv_room (Nat.le_of_ble_eq_true rfl)) dX6_putDown_48 ⟨Nat.zero_le _, Nat.zero_le _⟩) (fun S21 H locs h hG => ?_)
    exact b51 S21 a0z a1z _ _ ls h hG (lv_sub hl [1, 2] rfl)
  · have h := h.2 c10
    refine lv_aload_n hx hb dX6_putDown_13 rfl (lv_at hl 0 rfl) ?_
    refine lv_aload_n hx hb dX6_putDown_14 rfl (lv_at hl 1 rfl) ?_
    refine lv_iconst (v := (3 : Int32)) hx hb dX6_putDown_15 (by decide +kernel) ?_
    refine lv_aload_n hx hb dX6_putDown_16 rfl (lv_at hl 2 rfl) ?_
    refine qr_get (C := RX2) (T := TX2) (N := 7) (ci := 3) hx hb hts in3 hown hG hL6 fK7 (by decide) rfl 3 (by decide) rfl (hts (.fieldLink RX6 274 "QuayMesh$Message" "target" "I") (List.mem_of_getElem? (i := 3) rfl)) (fun _ h9 => h9) (v := .int (qs_I SA 3 a1z)) rfl dX6_putDown_17 ?_
    refine lv_topi (fun v22 ev22 => ?_)
    have h := h v22 ev22
    obtain ⟨⟨hL25, fK26⟩, h⟩ := h
    refine qc_i hG (va_runV (As := [.int (3 : Int32), .int v22]) (rest := [.ref q8]) ⟨hx, hb, hml, hown, hts⟩ (c_X6_countAt l g _ SA a0z (3 : Int32) v22 h) (cwV 2 hts gX6_putDown_X6_countAt rfl rfl rfl (by decide +kernel) ⟨(Nat.le_of_ble_eq_true rfl), (Nat.le_of_ble_eq_true rfl)⟩) ⟨qs_Pc.blind _ _ _ _, hG.recv hL25 fK26 (by decide) rfl, hG.pre _⟩ rfl rfl hl.1 rfl (lv_room (Nat.le_of_ble_eq_true rfl)) dX6_putDown_20 ⟨Nat.zero_le _, Nat.zero_le _⟩) (fun v28 S27 H locs h hG => ?_)
    obtain ⟨⟨hL29, fK30⟩, h⟩ := h
    refine qr_putI (C := RX0) (T := TX0) (N := 8) (ci := 1) hx hb hts in1 tyX0 tyX0_ok nmX0 hown hG hL29 fK30 (by decide) rfl 4 (by decide) rfl (hts (.fieldLink RX6 281 "QuayMesh$Box" "level" "I") (List.mem_of_getElem? (i := 4) rfl)) (fun _ h9 => h9) rfl (x := v28) (tyX0_ok 4 (by decide)) rfl rfl dX6_putDown_23 (fun H locs hG => ?_)
    refine lv_aload_n hx hb dX6_putDown_26 rfl (lv_at hl 0 rfl) ?_
    refine lv_iconst (v := (3 : Int32)) hx hb dX6_putDown_27 (by decide +kernel) ?_
    refine lv_aload_n hx hb dX6_putDown_28 rfl (lv_at hl 2 rfl) ?_
    obtain ⟨⟨hL31, fK32⟩, h⟩ := h
    refine qr_get (C := RX2) (T := TX2) (N := 7) (ci := 3) hx hb hts in3 hown hG hL31 fK32 (by decide) rfl 3 (by decide) rfl (hts (.fieldLink RX6 274 "QuayMesh$Message" "target" "I") (List.mem_of_getElem? (i := 3) rfl)) (fun _ h9 => h9) (v := .int (qs_I (qs_wI S27 4 q8 v28) 3 a1z)) rfl dX6_putDown_29 ?_
    refine lv_topi (fun v33 ev33 => ?_)
    have h := h v33 ev33
    refine qc_v hG (va_runV (As := [.int (3 : Int32), .int v33]) (rest := []) ⟨hx, hb, hml, hown, hts⟩ (c_X0_bring l g _ (qs_wI S27 4 q8 v28) q8 (3 : Int32) v33 h) (cwV 2 hts gX6_putDown_X0_bring rfl rfl rfl (by decide +kernel) ⟨(Nat.le_of_ble_eq_true rfl), (Nat.le_of_ble_eq_true rfl)⟩) ⟨qs_Pc.blind _ _ _ _, hG.recv hL29 fK30 (by decide) rfl, hG.pre _⟩ rfl rfl hl.1 rfl (lv_room (Nat.le_of_ble_eq_true rfl)) dX6_putDown_32 ⟨Nat.zero_le _, Nat.zero_le _⟩) (fun S36 H locs h hG => ?_)
    refine lv_goto (tgt := 51) hx hb dX6_putDown_35 (by decide) ?_
    exact b51 S36 a0z a1z _ _ ls h hG (lv_sub hl [1, 2] rfl)
def wp_X6_acknowledge_b57 (t0 m9 : Nat) (mc ms : Nat) (post : Int32 → qs_S → Prop) (k n : Nat) (S : qs_S) : Prop := post (4 : Int32) S
def wp_X6_acknowledge (t0 m9 : Nat) (mc ms : Nat) (post : Int32 → qs_S → Prop) (SA : qs_S) (a0z : Nat) (a1z : Nat) (a2z : Nat) : Prop := (a1z ∈ qs_L SA ∧ (qs_K SA a1z = 2 ∨ qs_K SA a1z = 5)) ∧ (∀ v3 : Int32, v3 = qs_I SA 4 a1z → (v3 ≤ 0 → (wp_X5_takeOut t0 m9 (fun (S7 : qs_S) => (a1z ∈ qs_L S7 ∧ (qs_K S7 a1z = 2 ∨ qs_K S7 a1z = 5)) ∧ ((a2z ∈ qs_L (qs_wR S7 6 a1z (some a2z)) ∧ qs_K (qs_wR S7 6 a1z (some a2z)) a2z = 3) ∧ (wp_X2_isMoveMade t0 m9 (fun (v15 : Int32) (S14 : qs_S) => (v15 = 0 → (wp_X6_acknowledge_b57 t0 m9 mc ms post 0 0 S14)) ∧ (¬ v15 = 0 → ((a2z ∈ qs_L S14 ∧ qs_K S14 a2z = 3) ∧ (∀ v19 : Int32, v19 = qs_I S14 6 a2z → (¬ v19 = 0 → (wp_X6_acknowledge_b57 t0 m9 mc ms post 0 0 S14)) ∧ (v19 = 0 → ((a0z ∈ qs_L (qs_wI S14 6 a2z (1 : Int32)) ∧ qs_K (qs_wI S14 6 a2z (1 : Int32)) a0z = 6) ∧ (∃ q23 : Nat, qs_R (qs_wI S14 6 a2z (1 : Int32)) 3 a0z = some q23 ∧ ((q23 ∈ qs_L (qs_wI S14 6 a2z (1 : Int32)) ∧ qs_K (qs_wI S14 6 a2z (1 : Int32)) q23 = 0) ∧ (∃ mck24 msk24 : Nat, (0 + mck24 ≤ mc ∧ 0 + msk24 ≤ ms) ∧ (wp_Jx4a65c_add_9ea2d t0 m9 mck24 msk24 (fun (v29 : Int32) (S28 : qs_S) => wp_X6_acknowledge_b57 t0 m9 mc ms post (0 + mck24) (0 + msk24) S28) (qs_wI S14 6 a2z (1 : Int32)) q23 a2z)))))))))) (qs_wR S7 6 a1z (some a2z)) a2z))) SA a1z a2z)) ∧ (¬ v3 ≤ 0 → (∀ v30 : Int32, v30 = qs_I SA 4 a1z → ∀ v31 : Int32, v31 = v30 - (1 : Int32) → post (5 : Int32) (qs_wI SA 4 a1z v31))))
set_option maxHeartbeats 4000000 in
set_option maxRecDepth 100000 in
theorem c_X6_acknowledge (l : Launch) (g : qs_G) (sz : Nat) (SA : qs_S) (a0z : Nat) (a1z : Nat) (a2z : Nat) {mc ms : Nat} {post : Int32 → qs_S → Prop} (h : wp_X6_acknowledge g.2.2.2.2.2.2.1 g.2.2.2.2.2.2.2 mc ms post SA a0z a1z a2z) : Met l yX6_acknowledge wsX6_acknowledge ({ frames := 7, cells := mc, slots := ms, locals := 191 } : Room) (qs_Pc g sz SA [.ref a0z, .ref a1z, .ref a2z]) (qs_Qi g (qs_F g SA sz) post) mc ms (qs_F g SA sz) := by
  refine Met.ofW (cc := cX6_acknowledge) (maxL := 3) (ret := (some .int)) (by decide +kernel) rfl ?_
  intro p e s m args below meth c s₁ B hml hv
  obtain ⟨rfl, hsz, hG⟩ := qs_Gd.start hv
  subst hsz
  have hx := B.exec
  have hb := B.bytes
  have hr := B.returns
  have hts := atoms_spec (ws := wsX6_acknowledge) B.pre
  have hown : s.vm.findClass RX6 = some m.cls := findClass_of_methodNamed B.named
  have hlk := B.notSynchronized
  have in0 : ∀ w ∈ u_ws RJx4a65c TJx4a65c 3, w ∈ wsX6_acknowledge := fun w h => List.mem_cons_of_mem _ (List.mem_append_right _ (h))
  have in2 : ∀ w ∈ u_ws RX1 TX1 8, w ∈ wsX6_acknowledge := fun w h => List.mem_cons_of_mem _ (List.mem_append_left _ (List.mem_append_left _ (List.mem_append_left _ (List.mem_append_left _ (List.mem_append_right _ (h))))))
  have in3 : ∀ w ∈ u_ws RX2 TX2 7, w ∈ wsX6_acknowledge := fun w h => List.mem_cons_of_mem _ (List.mem_append_left _ (List.mem_append_left _ (List.mem_append_right _ (h))))
  have in5 : ∀ w ∈ u_ws RX4 TX4 8, w ∈ wsX6_acknowledge := fun w h => List.mem_cons_of_mem _ (List.mem_append_left _ (List.mem_append_left _ (List.mem_append_left _ (List.mem_append_right _ (h)))))
  have in6 : ∀ w ∈ u_ws RX6 TX6 8, w ∈ wsX6_acknowledge := fun w h => List.mem_cons_of_mem _ (List.mem_append_left _ (List.mem_append_right _ (h)))
  have hkc : 0 ≤ mc := Nat.zero_le _
  have hks : 0 ≤ ms := Nat.zero_le _
  have hmR : mc ≤ (headSpec wsX6_acknowledge ({ frames := 7, cells := mc, slots := ms, locals := 191 } : Room)).room.cells := Nat.le_refl _
  have hsR : ms ≤ (headSpec wsX6_acknowledge ({ frames := 7, cells := mc, slots := ms, locals := 191 } : Room)).room.slots := Nat.le_refl _
  have b57 : ∀ (S : qs_S) (H : Heap) (locs : List Loc) (k n : Nat) (ls : Array Slot), k ≤ mc → n ≤ ms → wp_X6_acknowledge_b57 g.2.2.2.2.2.2.1 g.2.2.2.2.2.2.2 mc ms post k n S → qs_Gd g (qs_F g SA s.heap.size) s S H locs → lv_has ls 3 [] → W p l e (headSpec wsX6_acknowledge ({ frames := 7, cells := mc, slots := ms, locals := 191 } : Room)).room s m (([.ref a0z, .ref a1z, .ref a2z] : List Value)).toArray below meth c H locs k n (MQ below (qs_Qi g (qs_F g SA s.heap.size) post) (([.ref a0z, .ref a1z, .ref a2z] : List Value)).toArray s mc ms (qs_F g SA s.heap.size)) (F0 m 57 ls []) := by
    intro S H locs k n ls hkc hks h hG hl
    unfold wp_X6_acknowledge_b57 at h
    refine lv_iconst (v := (4 : Int32)) hx hb dX6_acknowledge_57 (by decide +kernel) ?_
    exact qe_i hx hb hr hlk hG h hkc hks dX6_acknowledge_58
  have hl := lv_entry ([.ref a0z, .ref a1z, .ref a2z]) (n := 3) (Nat.le_of_ble_eq_true rfl)
  rw [lg_entry_eq]
  generalize (lg_sl ([.ref a0z, .ref a1z, .ref a2z]) ++ List.replicate (3 - (lg_sl ([.ref a0z, .ref a1z, .ref a2z])).length) Slot.unset).toArray = ls at hl ⊢
  have hl : lv_has ls 3 [(0, .ref a0z), (1, .ref a1z), (2, .ref a2z)] := hl
  unfold wp_X6_acknowledge at h
  refine lv_aload_n hx hb dX6_acknowledge_0 rfl (lv_at hl 1 rfl) ?_
  obtain ⟨⟨hL1, fK2⟩, h⟩ := h
  refine qr_getW hx hb hts in2 in5 hown hG hL1 fK2 4 (by decide) rfl ⟨rfl, rfl⟩ (hts (.fieldLink RX6 207 "QuayMesh$Worker" "lossesOfAcks" "I") (List.mem_of_getElem? (i := 1) rfl)) (fun _ h9 => h9) (fun _ h9 => h9) (v := .int (qs_I SA 4 a1z)) rfl dX6_acknowledge_1 ?_
  refine lv_topi (fun v3 ev3 => ?_)
  have h := h v3 ev3
  refine lv_if_le (tgt := 19) hx hb dX6_acknowledge_4 (by decide) (fun c4 => ?_) (fun c4 => ?_)
  · have h := h.1 c4
    refine lv_aload_n hx hb dX6_acknowledge_19 rfl (lv_at hl 1 rfl) ?_
    refine lv_aload_n hx hb dX6_acknowledge_20 rfl (lv_at hl 2 rfl) ?_
    refine qc_v hG (Or.elim fK2 (fun hk9 => va_runU (As := [.ref a2z]) (rest := []) ⟨hx, hb, hml, hown, hts⟩ (c_X5_takeOut l g _ SA a1z a2z h) (va_cwU 1 hts gX6_acknowledge_X5_takeOut_u297X1 rfl rfl rfl rfl (by decide +kernel) ⟨(Nat.le_of_ble_eq_true rfl), (Nat.le_of_ble_eq_true rfl)⟩) ⟨qs_Pc.blind _ _ _ _, hG.recv hL1 hk9 (by decide) rfl, hG.pre _⟩ rfl rfl hl.1 rfl (lv_room (Nat.le_of_ble_eq_true rfl)) dX6_acknowledge_21 ⟨Nat.le_trans hkc hmR, Nat.le_trans hks hsR⟩) (fun hk9 => va_runU (As := [.ref a2z]) (rest := []) ⟨hx, hb, hml, hown, hts⟩ (c_X5_takeOut l g _ SA a1z a2z h) (va_cwU 1 hts gX6_acknowledge_X5_takeOut_u297X4 rfl rfl rfl rfl (by decide +kernel) ⟨(Nat.le_of_ble_eq_true rfl), (Nat.le_of_ble_eq_true rfl)⟩) ⟨qs_Pc.blind _ _ _ _, hG.recv hL1 hk9 (by decide) rfl, hG.pre _⟩ rfl rfl hl.1 rfl (lv_room (Nat.le_of_ble_eq_true rfl)) dX6_acknowledge_21 ⟨Nat.le_trans hkc hmR, Nat.le_trans hks hsR⟩)) (fun S7 H locs h hG => ?_)
    refine lv_aload_n hx hb dX6_acknowledge_24 rfl (lv_at hl 1 rfl) ?_
    refine lv_aload_n hx hb dX6_acknowledge_25 rfl (lv_at hl 2 rfl) ?_
    obtain ⟨⟨hL8, fK9⟩, h⟩ := h
    refine qr_putRW hx hb hts in2 in5 hown hG hL8 fK9 6 (by decide) rfl ⟨rfl, rfl⟩ (hts (.fieldLink RX6 213 "QuayMesh$Worker" "lastAcknowledged" "LQuayMesh$Message;") (List.mem_of_getElem? (i := 2) rfl)) (fun _ h9 => h9) (fun _ h9 => h9) rfl (x := some a2z) rfl (tyX1_ok 6 (by decide)) rfl rfl dX6_acknowledge_26 (fun H locs hG => ?_)
    refine lv_aload_n hx hb dX6_acknowledge_29 rfl (lv_at hl 2 rfl) ?_
    obtain ⟨⟨hL12, fK13⟩, h⟩ := h
    refine qc_i hG (va_runV (As := []) (rest := []) ⟨hx, hb, hml, hown, hts⟩ (c_X2_isMoveMade l g _ (qs_wR S7 6 a1z (some a2z)) a2z h) (cwV 0 hts gX6_acknowledge_X2_isMoveMade rfl rfl rfl (by decide +kernel) ⟨(Nat.le_of_ble_eq_true rfl), (Nat.le_of_ble_eq_true rfl)⟩) ⟨qs_Pc.blind _ _ _ _, hG.recv hL12 fK13 (by decide) rfl, hG.pre _⟩ rfl rfl hl.1 rfl (lv_room (Nat.le_of_ble_eq_true rfl)) dX6_acknowledge_30 ⟨Nat.le_trans hkc hmR, Nat.le_trans hks hsR⟩) (fun v15 S14 H locs h hG => ?_)
    refine lv_if_eq (tgt := 57) hx hb dX6_acknowledge_33 (by decide) (fun c16 => ?_) (fun c16 => ?_)
    · have h := h.1 c16
      exact b57 S14 _ _ 0 0 ls hkc hks h hG (lv_sub hl [] rfl)
    · have h := h.2 c16
      refine lv_aload_n hx hb dX6_acknowledge_36 rfl (lv_at hl 2 rfl) ?_
      obtain ⟨⟨hL17, fK18⟩, h⟩ := h
      refine qr_get (C := RX2) (T := TX2) (N := 7) (ci := 3) hx hb hts in3 hown hG hL17 fK18 (by decide) rfl 6 (by decide) rfl (hts (.fieldLink RX6 303 "QuayMesh$Message" "isLogged" "Z") (List.mem_of_getElem? (i := 3) rfl)) (fun _ h9 => h9) (v := .int (qs_I S14 6 a2z)) rfl dX6_acknowledge_37 ?_
      refine lv_topi (fun v19 ev19 => ?_)
      have h := h v19 ev19
      refine lv_if_ne (tgt := 57) hx hb dX6_acknowledge_40 (by decide) (fun c20 => ?_) (fun c20 => ?_)
      · have h := h.1 c20
        exact b57 S14 _ _ 0 0 ls hkc hks h hG (lv_sub hl [] rfl)
      · have h := h.2 c20
        refine lv_aload_n hx hb dX6_acknowledge_43 rfl (lv_at hl 2 rfl) ?_
        refine lv_iconst (v := (1 : Int32)) hx hb dX6_acknowledge_44 (by decide +kernel) ?_
        refine qr_putI (C := RX2) (T := TX2) (N := 7) (ci := 3) hx hb hts in3 tyX2 tyX2_ok nmX2 hown hG hL17 fK18 (by decide) rfl 6 (by decide) rfl (hts (.fieldLink RX6 303 "QuayMesh$Message" "isLogged" "Z") (List.mem_of_getElem? (i := 3) rfl)) (fun _ h9 => h9) rfl (x := (1 : Int32)) (tyX2_ok 6 (by decide)) (qs_nar01 (Or.inr rfl)) (qs_fit01 (Or.inr rfl)) dX6_acknowledge_45 (fun H locs hG => ?_)
        refine lv_aload_n hx hb dX6_acknowledge_48 rfl (lv_at hl 0 rfl) ?_
        obtain ⟨⟨hL21, fK22⟩, h⟩ := h
        obtain ⟨q23, eq23, h⟩ := h
        refine qr_get (C := RX6) (T := TX6) (N := 8) (ci := 6) hx hb hts in6 hown hG hL21 fK22 (by decide) rfl 3 (by decide) rfl (hts (.fieldLink RX6 22 "QuayMesh" "log" "Ljava/util/ArrayList;") (List.mem_of_getElem? (i := 4) rfl)) (fun _ h9 => h9) (v := .ref q23) (qs_rf eq23) dX6_acknowledge_49 ?_
        refine lv_aload_n hx hb dX6_acknowledge_52 rfl (lv_at hl 2 rfl) ?_
        obtain ⟨⟨hL26, fK27⟩, h⟩ := h
        obtain ⟨mck24, msk24, ⟨hs25c, hs25s⟩, h⟩ := h
        refine qc_i hG (va_runV (As := [.ref a2z]) (rest := []) ⟨hx, hb, hml, hown, hts⟩ (c_Jx4a65c_add_9ea2d l g _ (qs_wI S14 6 a2z (1 : Int32)) q23 a2z h) (cwV 1 hts gX6_acknowledge_Jx4a65c_add_9ea2d rfl rfl rfl (by decide +kernel) ⟨(Nat.le_of_ble_eq_true rfl), (Nat.le_of_ble_eq_true rfl)⟩) ⟨qs_Pc.blind _ _ _ _, hG.recv hL26 fK27 (by decide) rfl, hG.pre _⟩ rfl rfl hl.1 rfl (lv_room (Nat.le_of_ble_eq_true rfl)) dX6_acknowledge_53 ⟨Nat.le_trans hs25c hmR, Nat.le_trans hs25s hsR⟩) (fun v29 S28 H locs h hG => ?_)
        have hkc := hs25c
        have hks := hs25s
        refine lv_pop hx hb dX6_acknowledge_56 rfl ?_
        exact b57 S28 _ _ (0 + mck24) (0 + msk24) ls hkc hks h hG (lv_sub hl [] rfl)
  · have h := h.2 c4
    refine lv_aload_n hx hb dX6_acknowledge_7 rfl (lv_at hl 1 rfl) ?_
    refine lv_dup hx hb dX6_acknowledge_8 rfl ?_
    refine qr_getW hx hb hts in2 in5 hown hG hL1 fK2 4 (by decide) rfl ⟨rfl, rfl⟩ (hts (.fieldLink RX6 207 "QuayMesh$Worker" "lossesOfAcks" "I") (List.mem_of_getElem? (i := 1) rfl)) (fun _ h9 => h9) (fun _ h9 => h9) (v := .int (qs_I SA 4 a1z)) rfl dX6_acknowledge_9 ?_
    refine lv_topi (fun v30 ev30 => ?_)
    have h := h v30 ev30
    refine lv_iconst (v := (1 : Int32)) hx hb dX6_acknowledge_12 (by decide +kernel) ?_
    refine lv_isub hx hb dX6_acknowledge_13 ?_
    refine lv_topi (fun v31 ev31 => ?_)
    have h := h v31 ev31
    refine qr_putIW hx hb hts in2 in5 hown hG hL1 fK2 4 (by decide) rfl ⟨rfl, rfl⟩ (hts (.fieldLink RX6 207 "QuayMesh$Worker" "lossesOfAcks" "I") (List.mem_of_getElem? (i := 1) rfl)) (fun _ h9 => h9) (fun _ h9 => h9) rfl (x := v31) (tyX1_ok 4 (by decide)) rfl rfl dX6_acknowledge_14 (fun H locs hG => ?_)
    refine lv_iconst (v := (5 : Int32)) hx hb dX6_acknowledge_17 (by decide +kernel) ?_
    exact qe_i hx hb hr hlk hG h hkc hks dX6_acknowledge_18
def wp_X6_finish (t0 m9 : Nat) (mc ms : Nat) (post : Int32 → qs_S → Prop) (SA : qs_S) (a0z : Nat) (a1z : Nat) (a2z : Nat) : Prop := (a1z ∈ qs_L SA ∧ qs_K SA a1z = 5) ∧ (∃ q3 : Nat, qs_R SA 2 a1z = some q3 ∧ ((q3 ∈ qs_L SA ∧ qs_K SA q3 = 0) ∧ (∃ mck4 msk4 : Nat, (0 + mck4 ≤ mc ∧ 0 + msk4 ≤ ms) ∧ (wp_Jx4a65c_add_9ea2d t0 m9 mck4 msk4 (fun (v9 : Int32) (S8 : qs_S) => (a1z ∈ qs_L S8 ∧ qs_K S8 a1z = 5) ∧ ((a0z ∈ qs_L (qs_wR S8 7 a1z none) ∧ qs_K (qs_wR S8 7 a1z none) a0z = 6) ∧ (∃ mck12 msk12 : Nat, (0 + mck4 + mck12 ≤ mc ∧ 0 + msk4 + msk12 ≤ ms) ∧ (wp_X6_acknowledge t0 m9 mck12 msk12 (fun (v17 : Int32) (S16 : qs_S) => post v17 S16) (qs_wR S8 7 a1z none) a0z a1z a2z)))) SA q3 a2z))))
set_option maxHeartbeats 4000000 in
set_option maxRecDepth 100000 in
theorem c_X6_finish (l : Launch) (g : qs_G) (sz : Nat) (SA : qs_S) (a0z : Nat) (a1z : Nat) (a2z : Nat) {mc ms : Nat} {post : Int32 → qs_S → Prop} (h : wp_X6_finish g.2.2.2.2.2.2.1 g.2.2.2.2.2.2.2 mc ms post SA a0z a1z a2z) : Met l yX6_finish wsX6_finish ({ frames := 8, cells := mc, slots := ms, locals := 213 } : Room) (qs_Pc g sz SA [.ref a0z, .ref a1z, .ref a2z]) (qs_Qi g (qs_F g SA sz) post) mc ms (qs_F g SA sz) := by
  refine Met.ofW (cc := cX6_finish) (maxL := 3) (ret := (some .int)) (by decide +kernel) rfl ?_
  intro p e s m args below meth c s₁ B hml hv
  obtain ⟨rfl, hsz, hG⟩ := qs_Gd.start hv
  subst hsz
  have hx := B.exec
  have hb := B.bytes
  have hr := B.returns
  have hts := atoms_spec (ws := wsX6_finish) B.pre
  have hown : s.vm.findClass RX6 = some m.cls := findClass_of_methodNamed B.named
  have hlk := B.notSynchronized
  have in0 : ∀ w ∈ u_ws RJx4a65c TJx4a65c 3, w ∈ wsX6_finish := fun w h => List.mem_cons_of_mem _ (List.mem_append_left _ (List.mem_append_left _ (List.mem_append_right _ (h))))
  have in2 : ∀ w ∈ u_ws RX1 TX1 8, w ∈ wsX6_finish := fun w h => List.mem_cons_of_mem _ (List.mem_append_left _ (List.mem_append_left _ (List.mem_append_left _ (List.mem_append_left _ (List.mem_append_right _ (h))))))
  have in3 : ∀ w ∈ u_ws RX2 TX2 7, w ∈ wsX6_finish := fun w h => List.mem_cons_of_mem _ (List.mem_append_left _ (List.mem_append_right _ (h)))
  have in5 : ∀ w ∈ u_ws RX4 TX4 8, w ∈ wsX6_finish := fun w h => List.mem_cons_of_mem _ (List.mem_append_left _ (List.mem_append_left _ (List.mem_append_left _ (List.mem_append_right _ (h)))))
  have in6 : ∀ w ∈ u_ws RX6 TX6 8, w ∈ wsX6_finish := fun w h => List.mem_cons_of_mem _ (List.mem_append_right _ (h))
  have hkc : 0 ≤ mc := Nat.zero_le _
  have hks : 0 ≤ ms := Nat.zero_le _
  have hmR : mc ≤ (headSpec wsX6_finish ({ frames := 8, cells := mc, slots := ms, locals := 213 } : Room)).room.cells := Nat.le_refl _
  have hsR : ms ≤ (headSpec wsX6_finish ({ frames := 8, cells := mc, slots := ms, locals := 213 } : Room)).room.slots := Nat.le_refl _
  have hl := lv_entry ([.ref a0z, .ref a1z, .ref a2z]) (n := 3) (Nat.le_of_ble_eq_true rfl)
  rw [lg_entry_eq]
  generalize (lg_sl ([.ref a0z, .ref a1z, .ref a2z]) ++ List.replicate (3 - (lg_sl ([.ref a0z, .ref a1z, .ref a2z])).length) Slot.unset).toArray = ls at hl ⊢
  have hl : lv_has ls 3 [(0, .ref a0z), (1, .ref a1z), (2, .ref a2z)] := hl
  unfold wp_X6_finish at h
  refine lv_aload_n hx hb dX6_finish_0 rfl (lv_at hl 1 rfl) ?_
  obtain ⟨⟨hL1, fK2⟩, h⟩ := h
  obtain ⟨q3, eq3, h⟩ := h
  refine qr_get (C := RX4) (T := TX4) (N := 8) (ci := 5) hx hb hts in5 hown hG hL1 fK2 (by decide) rfl 2 (by decide) rfl (hts (.fieldLink RX6 296 "QuayMesh$Truck" "remembered" "Ljava/util/ArrayList;") (List.mem_of_getElem? (i := 1) rfl)) (u_same (hts (.sameField "QuayMesh$Truck" "QuayMesh$Worker" "remembered" "Ljava/util/ArrayList;") (List.mem_of_getElem? (i := 2) rfl))) (v := .ref q3) (qs_rf eq3) dX6_finish_1 ?_
  refine lv_aload_n hx hb dX6_finish_4 rfl (lv_at hl 2 rfl) ?_
  obtain ⟨⟨hL6, fK7⟩, h⟩ := h
  obtain ⟨mck4, msk4, ⟨hs5c, hs5s⟩, h⟩ := h
  refine qc_i hG (va_runV (As := [.ref a2z]) (rest := []) ⟨hx, hb, hml, hown, hts⟩ (c_Jx4a65c_add_9ea2d l g _ SA q3 a2z h) (cwV 1 hts gX6_finish_Jx4a65c_add_9ea2d rfl rfl rfl (by decide +kernel) ⟨(Nat.le_of_ble_eq_true rfl), (Nat.le_of_ble_eq_true rfl)⟩) ⟨qs_Pc.blind _ _ _ _, hG.recv hL6 fK7 (by decide) rfl, hG.pre _⟩ rfl rfl hl.1 rfl (lv_room (Nat.le_of_ble_eq_true rfl)) dX6_finish_5 ⟨Nat.le_trans hs5c hmR, Nat.le_trans hs5s hsR⟩) (fun v9 S8 H locs h hG => ?_)
  have hkc := hs5c
  have hks := hs5s
  refine lv_pop hx hb dX6_finish_8 rfl ?_
  refine lv_aload_n hx hb dX6_finish_9 rfl (lv_at hl 1 rfl) ?_
  refine lv_null hx hb dX6_finish_10 ?_
  obtain ⟨⟨hL10, fK11⟩, h⟩ := h
  refine qr_putR (C := RX4) (T := TX4) (N := 8) (ci := 5) hx hb hts in5 tyX4 tyX4_ok nmX4 hown hG hL10 fK11 (by decide) rfl 7 (by decide) rfl (hts (.fieldLink RX6 173 "QuayMesh$Truck" "lastSeen" "LQuayMesh$Message;") (List.mem_of_getElem? (i := 3) rfl)) (fun _ h9 => h9) rfl (x := none) rfl (tyX4_ok 7 (by decide)) rfl rfl dX6_finish_11 (fun H locs hG => ?_)
  refine lv_aload_n hx hb dX6_finish_14 rfl (lv_at hl 0 rfl) ?_
  refine lv_aload_n hx hb dX6_finish_15 rfl (lv_at hl 1 rfl) ?_
  refine lv_aload_n hx hb dX6_finish_16 rfl (lv_at hl 2 rfl) ?_
  obtain ⟨⟨hL14, fK15⟩, h⟩ := h
  obtain ⟨mck12, msk12, ⟨hs13c, hs13s⟩, h⟩ := h
  refine qc_i hG (va_runV (As := [.ref a1z, .ref a2z]) (rest := []) ⟨hx, hb, hml, hown, hts⟩ (c_X6_acknowledge l g _ (qs_wR S8 7 a1z none) a0z a1z a2z h) (cwV 2 hts gX6_finish_X6_acknowledge rfl rfl rfl (by decide +kernel) ⟨(Nat.le_of_ble_eq_true rfl), (Nat.le_of_ble_eq_true rfl)⟩) ⟨qs_Pc.blind _ _ _ _, hG.recv hL14 fK15 (by decide) rfl, hG.pre _⟩ rfl rfl hl.1 rfl (lv_room (Nat.le_of_ble_eq_true rfl)) dX6_finish_17 ⟨Nat.le_trans hs13c hmR, Nat.le_trans hs13s hsR⟩) (fun v17 S16 H locs h hG => ?_)
  have hkc := hs13c
  have hks := hs13s
  exact qe_i hx hb hr hlk hG h hkc hks dX6_finish_20
def wp_X6_lift_b46 (t0 m9 : Nat) (mc ms : Nat) (post : Int32 → qs_S → Prop) (px : String → qs_S → Prop) (k n : Nat) (S : qs_S) : Prop := post (3 : Int32) S
def wp_X6_lift (t0 m9 : Nat) (mc ms : Nat) (post : Int32 → qs_S → Prop) (px : String → qs_S → Prop) (SA : qs_S) (a0z : Nat) (a1z : Nat) (a2z : Nat) : Prop := (a2z ∈ qs_L SA ∧ qs_K SA a2z = 3) ∧ (∃ q3 : Nat, qs_R SA 2 a2z = some q3 ∧ ((q3 ∈ qs_L SA ∧ qs_K SA q3 = 1) ∧ (∀ v6 : Int32, v6 = qs_I SA 2 q3 → (v6 = 0 → ((a1z ∈ qs_L SA ∧ qs_K SA a1z = 2) ∧ (∀ v10 : Int32, v10 = qs_I SA 0 a1z → ∀ v11 : Int32, v11 = qs_I SA 1 q3 → (a0z ∈ qs_L SA ∧ qs_K SA a0z = 6) ∧ (∃ mck12 msk12 : Nat, (0 + mck12 ≤ mc ∧ 0 + msk12 ≤ ms) ∧ (wp_X6_canGo t0 m9 mck12 msk12 (fun (v17 : Int32) (S16 : qs_S) => (v17 = 0 → (wp_X6_lift_b46 t0 m9 mc ms post px (0 + mck12) (0 + msk12) S16)) ∧ (¬ v17 = 0 → ((q3 ∈ qs_L S16 ∧ qs_K S16 q3 = 1) ∧ (∀ v21 : Int32, v21 = qs_I S16 1 q3 → (a0z ∈ qs_L S16 ∧ qs_K S16 a0z = 6) ∧ (wp_X6_countAt t0 m9 (fun (v27 : Int32) (S26 : qs_S) => (v27 ≤ 0 → ((q3 ∈ qs_L S26 ∧ qs_K S26 q3 = 1) ∧ (∀ v31 : Int32, v31 = qs_I S26 1 q3 → (a1z ∈ qs_L S26 ∧ qs_K S26 a1z = 2) ∧ (∀ v34 : Int32, v34 = qs_I (qs_wI S26 7 a1z v31) 1 q3 → wp_X0_bring t0 m9 (fun (S37 : qs_S) => (a1z ∈ qs_L S37 ∧ qs_K S37 a1z = 2) ∧ (∀ v40 : Int32, v40 = qs_I S37 0 a1z → (q3 ∈ qs_L S37 ∧ qs_K S37 q3 = 1) ∧ ((a0z ∈ qs_L (qs_wI S37 5 q3 v40) ∧ qs_K (qs_wI S37 5 q3 v40) a0z = 6) ∧ (wp_X6_noteMove t0 m9 (fun (S47 : qs_S) => (a1z ∈ qs_L S47 ∧ qs_K S47 a1z = 2) ∧ (∃ q50 : Nat, qs_R S47 2 a1z = some q50 ∧ ((q50 ∈ qs_L S47 ∧ qs_K S47 q50 = 0) ∧ (∃ mck51 msk51 : Nat, (0 + mck12 + mck51 ≤ mc ∧ 0 + msk12 + msk51 ≤ ms) ∧ (wp_Jx4a65c_add_9ea2d t0 m9 mck51 msk51 (fun (v56 : Int32) (S55 : qs_S) => (a0z ∈ qs_L S55 ∧ qs_K S55 a0z = 6) ∧ (∃ mck57 msk57 : Nat, (0 + mck12 + mck51 + mck57 ≤ mc ∧ 0 + msk12 + msk51 + msk57 ≤ ms) ∧ (wp_X6_acknowledge t0 m9 mck57 msk57 (fun (v62 : Int32) (S61 : qs_S) => post v62 S61) S55 a0z a1z a2z))) S47 q50 a2z))))) (qs_wI S37 5 q3 v40) a0z a2z)))) (qs_wI S26 7 a1z v31) q3 (1 : Int32) v34)))) ∧ (¬ v27 ≤ 0 → (wp_X6_lift_b46 t0 m9 mc ms post px (0 + mck12) (0 + msk12) S26))) S16 a0z (1 : Int32) v21))))) px SA a0z v10 v11))))) ∧ (¬ v6 = 0 → ((a0z ∈ qs_L SA ∧ qs_K SA a0z = 6) ∧ (∃ mck63 msk63 : Nat, (0 + mck63 ≤ mc ∧ 0 + msk63 ≤ ms) ∧ (wp_X6_acknowledge t0 m9 mck63 msk63 (fun (v68 : Int32) (S67 : qs_S) => post v68 S67) SA a0z a1z a2z)))))))
set_option maxHeartbeats 4000000 in
set_option maxRecDepth 100000 in
theorem c_X6_lift (l : Launch) (hl9 : l.stackTraces = false) (g : qs_G) (sz : Nat) (SA : qs_S) (a0z : Nat) (a1z : Nat) (a2z : Nat) {mc ms : Nat} {post : Int32 → qs_S → Prop} {px : String → qs_S → Prop} (h : wp_X6_lift g.2.2.2.2.2.2.1 g.2.2.2.2.2.2.2 mc ms post px SA a0z a1z a2z) : vx_Met l yX6_lift wsX6_lift ({ frames := 9, cells := mc, slots := ms, locals := 213 } : Room) (qs_Pc g sz SA [.ref a0z, .ref a1z, .ref a2z]) (qs_Qi g (qs_F g SA sz) post) (qs_X g (qs_F g SA sz) px) mc ms (qs_F g SA sz) := by
  refine vx_ofW (cc := cX6_lift) (maxL := 4) (ret := (some .int)) (by decide +kernel) rfl ?_
  intro p e s m args below meth c s₁ B hml hnt hv
  obtain ⟨rfl, hsz, hG⟩ := qs_Gd.start hv
  subst hsz
  have hx := B.exec
  have hb := B.bytes
  have hr := B.returns
  have hts := atoms_spec (ws := wsX6_lift) B.pre
  have hown : s.vm.findClass RX6 = some m.cls := findClass_of_methodNamed B.named
  have hlk := B.notSynchronized
  have in0 : ∀ w ∈ u_ws RJx4a65c TJx4a65c 3, w ∈ wsX6_lift := fun w h => List.mem_cons_of_mem _ (List.mem_append_left _ (List.mem_append_right _ (h)))
  have in1 : ∀ w ∈ u_ws RX0 TX0 8, w ∈ wsX6_lift := fun w h => List.mem_cons_of_mem _ (List.mem_append_left _ (List.mem_append_left _ (List.mem_append_left _ (List.mem_append_left _ (List.mem_append_left _ (List.mem_append_right _ (h)))))))
  have in2 : ∀ w ∈ u_ws RX1 TX1 8, w ∈ wsX6_lift := fun w h => List.mem_cons_of_mem _ (List.mem_append_left _ (List.mem_append_left _ (List.mem_append_left _ (List.mem_append_left _ (List.mem_append_right _ (h))))))
  have in3 : ∀ w ∈ u_ws RX2 TX2 7, w ∈ wsX6_lift := fun w h => List.mem_cons_of_mem _ (List.mem_append_left _ (List.mem_append_left _ (List.mem_append_left _ (List.mem_append_left _ (List.mem_append_left _ (List.mem_append_left _ (List.mem_append_right _ (h))))))))
  have in5 : ∀ w ∈ u_ws RX4 TX4 8, w ∈ wsX6_lift := fun w h => List.mem_cons_of_mem _ (List.mem_append_left _ (List.mem_append_left _ (List.mem_append_left _ (List.mem_append_right _ (h)))))
  have in6 : ∀ w ∈ u_ws RX6 TX6 8, w ∈ wsX6_lift := fun w h => List.mem_cons_of_mem _ (List.mem_append_left _ (List.mem_append_left _ (List.mem_append_right _ (h))))
  have hkc : 0 ≤ mc := Nat.zero_le _
  have hks : 0 ≤ ms := Nat.zero_le _
  have hmR : mc ≤ (headSpec wsX6_lift ({ frames := 9, cells := mc, slots := ms, locals := 213 } : Room)).room.cells := Nat.le_refl _
  have hsR : ms ≤ (headSpec wsX6_lift ({ frames := 9, cells := mc, slots := ms, locals := 213 } : Room)).room.slots := Nat.le_refl _
  have b46 : ∀ (S : qs_S) (H : Heap) (locs : List Loc) (k n : Nat) (ls : Array Slot), k ≤ mc → n ≤ ms → wp_X6_lift_b46 g.2.2.2.2.2.2.1 g.2.2.2.2.2.2.2 mc ms post px k n S → qs_Gd g (qs_F g SA s.heap.size) s S H locs → lv_has ls 4 [] → W p l e (headSpec wsX6_lift ({ frames := 9, cells := mc, slots := ms, locals := 213 } : Room)).room s m (([.ref a0z, .ref a1z, .ref a2z] : List Value)).toArray below meth c H locs k n (vx_MQ below (qs_Qi g (qs_F g SA s.heap.size) post) (qs_X g (qs_F g SA s.heap.size) px) (([.ref a0z, .ref a1z, .ref a2z] : List Value)).toArray s mc ms (qs_F g SA s.heap.size)) (F0 m 46 ls []) := by
    intro S H locs k n ls hkc hks h hG hl
    unfold wp_X6_lift_b46 at h
    refine lv_iconst (v := (3 : Int32)) hx hb dX6_lift_46 (by decide +kernel) ?_
    refine vx_ret ?_
    exact qe_i hx hb hr hlk hG h hkc hks dX6_lift_47
  have hl := lv_entry ([.ref a0z, .ref a1z, .ref a2z]) (n := 4) (Nat.le_of_ble_eq_true rfl)
  rw [lg_entry_eq]
  generalize (lg_sl ([.ref a0z, .ref a1z, .ref a2z]) ++ List.replicate (4 - (lg_sl ([.ref a0z, .ref a1z, .ref a2z])).length) Slot.unset).toArray = ls at hl ⊢
  have hl : lv_has ls 4 [(0, .ref a0z), (1, .ref a1z), (2, .ref a2z)] := hl
  unfold wp_X6_lift at h
  refine lv_aload_n hx hb dX6_lift_0 rfl (lv_at hl 2 rfl) ?_
  obtain ⟨⟨hL1, fK2⟩, h⟩ := h
  obtain ⟨q3, eq3, h⟩ := h
  refine qr_get (C := RX2) (T := TX2) (N := 7) (ci := 3) hx hb hts in3 hown hG hL1 fK2 (by decide) rfl 2 (by decide) rfl (hts (.fieldLink RX6 185 "QuayMesh$Message" "box" "LQuayMesh$Box;") (List.mem_of_getElem? (i := 1) rfl)) (fun _ h9 => h9) (v := .ref q3) (qs_rf eq3) dX6_lift_1 ?_
  refine lv_astore_n (lv' := [(3, .ref q3), (0, .ref a0z), (1, .ref a1z), (2, .ref a2z)]) hx hb dX6_lift_4 rfl hl (by decide) rfl (fun ls hl => ?_)
  refine lv_aload_n hx hb dX6_lift_5 rfl (lv_at hl 0 rfl) ?_
  obtain ⟨⟨hL4, fK5⟩, h⟩ := h
  refine qr_get (C := RX0) (T := TX0) (N := 8) (ci := 1) hx hb hts in1 hown hG hL4 fK5 (by decide) rfl 2 (by decide) rfl (hts (.fieldLink RX6 105 "QuayMesh$Box" "where" "I") (List.mem_of_getElem? (i := 2) rfl)) (fun _ h9 => h9) (v := .int (qs_I SA 2 q3)) rfl dX6_lift_6 ?_
  refine lv_topi (fun v6 ev6 => ?_)
  have h := h v6 ev6
  refine lv_if_eq (tgt := 19) hx hb dX6_lift_9 (by decide) (fun c7 => ?_) (fun c7 => ?_)
  · have h := h.1 c7
    refine lv_aload_n hx hb dX6_lift_19 rfl (lv_at hl 1 rfl) ?_
    refine lv_aload_n hx hb dX6_lift_20 rfl (lv_at hl 2 rfl) ?_
    obtain ⟨⟨hL8, fK9⟩, h⟩ := h
    refine qr_get (C := RX1) (T := TX1) (N := 8) (ci := 2) hx hb hts in2 hown hG hL8 fK9 (by decide) rfl 0 (by decide) rfl (hts (.fieldLink RX6 258 "QuayMesh$Crane" "number" "I") (List.mem_of_getElem? (i := 3) rfl)) (u_same (hts (.sameField "QuayMesh$Crane" "QuayMesh$Worker" "number" "I") (List.mem_of_getElem? (i := 4) rfl))) (v := .int (qs_I SA 0 a1z)) rfl dX6_lift_21 ?_
    refine lv_topi (fun v10 ev10 => ?_)
    have h := h v10 ev10
    refine lv_aload_n hx hb dX6_lift_24 rfl (lv_at hl 0 rfl) ?_
    refine qr_get (C := RX0) (T := TX0) (N := 8) (ci := 1) hx hb hts in1 hown hG hL4 fK5 (by decide) rfl 1 (by decide) rfl (hts (.fieldLink RX6 259 "QuayMesh$Box" "place" "I") (List.mem_of_getElem? (i := 5) rfl)) (fun _ h9 => h9) (v := .int (qs_I SA 1 q3)) rfl dX6_lift_25 ?_
    refine lv_topi (fun v11 ev11 => ?_)
    have h := h v11 ev11
    obtain ⟨⟨hL14, fK15⟩, h⟩ := h
    obtain ⟨mck12, msk12, ⟨hs13c, hs13s⟩, h⟩ := h
    refine qx_i hG (vx_runV (As := [.int v10, .int v11]) (rest := []) ⟨hx, hb, hml, hown, hts⟩ (c_X6_canGo l hl9 g _ SA a0z v10 v11 h) (cwV 2 hts gX6_lift_X6_canGo rfl rfl rfl (by decide +kernel) ⟨(Nat.le_of_ble_eq_true rfl), (Nat.le_of_ble_eq_true rfl)⟩) ⟨qs_Pc.blind _ _ _ _, hG.recv hL14 fK15 (by decide) rfl, hG.pre _⟩ rfl rfl hl.1 rfl (lv_room (Nat.le_of_ble_eq_true rfl)) dX6_lift_28 ⟨Nat.le_trans hs13c hmR, Nat.le_trans hs13s hsR⟩) (fun E S1 H locs ce q9 hp hG h1 h2 h3 => qx_out hnt hlk hG hp h1 h2 h3 hs13c hs13s) (fun v17 S16 H locs h hG => ?_)
    have hkc := hs13c
    have hks := hs13s
    refine lv_if_eq (tgt := 46) hx hb dX6_lift_31 (by decide) (fun c18 => ?_) (fun c18 => ?_)
    · have h := h.1 c18
      exact b46 S16 _ _ (0 + mck12) (0 + msk12) ls hkc hks h hG (lv_sub hl [] rfl)
    · have h := h.2 c18
      refine lv_aload_n hx hb dX6_lift_34 rfl (lv_at hl 1 rfl) ?_
      refine lv_iconst (v := (1 : Int32)) hx hb dX6_lift_35 (by decide +kernel) ?_
      refine lv_aload_n hx hb dX6_lift_36 rfl (lv_at hl 0 rfl) ?_
      obtain ⟨⟨hL19, fK20⟩, h⟩ := h
      refine qr_get (C := RX0) (T := TX0) (N := 8) (ci := 1) hx hb hts in1 hown hG hL19 fK20 (by decide) rfl 1 (by decide) rfl (hts (.fieldLink RX6 259 "QuayMesh$Box" "place" "I") (List.mem_of_getElem? (i := 5) rfl)) (fun _ h9 => h9) (v := .int (qs_I S16 1 q3)) rfl dX6_lift_37 ?_
      refine lv_topi (fun v21 ev21 => ?_)
      have h := h v21 ev21
      obtain ⟨⟨hL24, fK25⟩, h⟩ := h
      refine qc_i hG (va_runV (As := [.int (1 : Int32), .int v21]) (rest := []) ⟨hx, hb, hml, hown, hts⟩ (c_X6_countAt l g _ S16 a0z (1 : Int32) v21 h) (cwV 2 hts gX6_lift_X6_countAt rfl rfl rfl (by decide +kernel) ⟨(Nat.le_of_ble_eq_true rfl), (Nat.le_of_ble_eq_true rfl)⟩) ⟨qs_Pc.blind _ _ _ _, hG.recv hL24 fK25 (by decide) rfl, hG.pre _⟩ rfl rfl hl.1 rfl (lv_room (Nat.le_of_ble_eq_true rfl)) dX6_lift_40 ⟨Nat.le_trans hkc hmR, Nat.le_trans hks hsR⟩) (fun v27 S26 H locs h hG => ?_)
      refine lv_if_le (tgt := 48) hx hb dX6_lift_43 (by decide) (fun c28 => ?_) (fun c28 => ?_)
      · have h := h.1 c28
        refine lv_aload_n hx hb dX6_lift_48 rfl (lv_at hl 2 rfl) ?_
        refine lv_aload_n hx hb dX6_lift_49 rfl (lv_at hl 0 rfl) ?_
        obtain ⟨⟨hL29, fK30⟩, h⟩ := h
        refine qr_get (C := RX0) (T := TX0) (N := 8) (ci := 1) hx hb hts in1 hown hG hL29 fK30 (by decide) rfl 1 (by decide) rfl (hts (.fieldLink RX6 259 "QuayMesh$Box" "place" "I") (List.mem_of_getElem? (i := 5) rfl)) (fun _ h9 => h9) (v := .int (qs_I S26 1 q3)) rfl dX6_lift_50 ?_
        refine lv_topi (fun v31 ev31 => ?_)
        have h := h v31 ev31
        obtain ⟨⟨hL32, fK33⟩, h⟩ := h
        refine qr_putI (C := RX1) (T := TX1) (N := 8) (ci := 2) hx hb hts in2 tyX1 tyX1_ok nmX1 hown hG hL32 fK33 (by decide) rfl 7 (by decide) rfl (hts (.fieldLink RX6 239 "QuayMesh$Crane" "place" "I") (List.mem_of_getElem? (i := 6) rfl)) (fun _ h9 => h9) rfl (x := v31) (tyX1_ok 7 (by decide)) rfl rfl dX6_lift_53 (fun H locs hG => ?_)
        refine lv_aload_n hx hb dX6_lift_56 rfl (lv_at hl 0 rfl) ?_
        refine lv_iconst (v := (1 : Int32)) hx hb dX6_lift_57 (by decide +kernel) ?_
        refine lv_aload_n hx hb dX6_lift_58 rfl (lv_at hl 0 rfl) ?_
        refine qr_get (C := RX0) (T := TX0) (N := 8) (ci := 1) hx hb hts in1 hown hG hL29 fK30 (by decide) rfl 1 (by decide) rfl (hts (.fieldLink RX6 259 "QuayMesh$Box" "place" "I") (List.mem_of_getElem? (i := 5) rfl)) (fun _ h9 => h9) (v := .int (qs_I (qs_wI S26 7 a1z v31) 1 q3)) rfl dX6_lift_59 ?_
        refine lv_topi (fun v34 ev34 => ?_)
        have h := h v34 ev34
        refine qc_v hG (va_runV (As := [.int (1 : Int32), .int v34]) (rest := []) ⟨hx, hb, hml, hown, hts⟩ (c_X0_bring l g _ (qs_wI S26 7 a1z v31) q3 (1 : Int32) v34 h) (cwV 2 hts gX6_lift_X0_bring rfl rfl rfl (by decide +kernel) ⟨(Nat.le_of_ble_eq_true rfl), (Nat.le_of_ble_eq_true rfl)⟩) ⟨qs_Pc.blind _ _ _ _, hG.recv hL29 fK30 (by decide) rfl, hG.pre _⟩ rfl rfl hl.1 rfl (lv_room (Nat.le_of_ble_eq_true rfl)) dX6_lift_62 ⟨Nat.le_trans hkc hmR, Nat.le_trans hks hsR⟩) (fun S37 H locs h hG => ?_)
        refine lv_aload_n hx hb dX6_lift_65 rfl (lv_at hl 0 rfl) ?_
        refine lv_aload_n hx hb dX6_lift_66 rfl (lv_at hl 2 rfl) ?_
        obtain ⟨⟨hL38, fK39⟩, h⟩ := h
        refine qr_get (C := RX1) (T := TX1) (N := 8) (ci := 2) hx hb hts in2 hown hG hL38 fK39 (by decide) rfl 0 (by decide) rfl (hts (.fieldLink RX6 258 "QuayMesh$Crane" "number" "I") (List.mem_of_getElem? (i := 3) rfl)) (u_same (hts (.sameField "QuayMesh$Crane" "QuayMesh$Worker" "number" "I") (List.mem_of_getElem? (i := 4) rfl))) (v := .int (qs_I S37 0 a1z)) rfl dX6_lift_67 ?_
        refine lv_topi (fun v40 ev40 => ?_)
        have h := h v40 ev40
        obtain ⟨⟨hL41, fK42⟩, h⟩ := h
        refine qr_putI (C := RX0) (T := TX0) (N := 8) (ci := 1) hx hb hts in1 tyX0 tyX0_ok nmX0 hown hG hL41 fK42 (by decide) rfl 5 (by decide) rfl (hts (.fieldLink RX6 264 "QuayMesh$Box" "lifter" "I") (List.mem_of_getElem? (i := 7) rfl)) (fun _ h9 => h9) rfl (x := v40) (tyX0_ok 5 (by decide)) rfl rfl dX6_lift_70 (fun H locs hG => ?_)
        refine lv_aload_n hx hb dX6_lift_73 rfl (lv_at hl 1 rfl) ?_
        refine lv_aload_n hx hb dX6_lift_74 rfl (lv_at hl 3 rfl) ?_
        obtain ⟨⟨hL45, fK46⟩, h⟩ := h
        refine qc_v hG (va_runV (As := [.ref a2z]) (rest := []) ⟨hx, hb, hml, hown, hts⟩ (c_X6_noteMove l g _ (qs_wI S37 5 q3 v40) a0z a2z h) (cwV 1 hts gX6_lift_X6_noteMove rfl rfl rfl (by decide +kernel) ⟨(Nat.le_of_ble_eq_true rfl), (Nat.le_of_ble_eq_true rfl)⟩) ⟨qs_Pc.blind _ _ _ _, hG.recv hL45 fK46 (by decide) rfl, hG.pre _⟩ rfl rfl hl.1 rfl (lv_room (Nat.le_of_ble_eq_true rfl)) dX6_lift_75 ⟨Nat.le_trans hkc hmR, Nat.le_trans hks hsR⟩) (fun S47 H locs h hG => ?_)
        refine lv_aload_n hx hb dX6_lift_78 rfl (lv_at hl 2 rfl) ?_
        obtain ⟨⟨hL48, fK49⟩, h⟩ := h
        obtain ⟨q50, eq50, h⟩ := h
        refine qr_get (C := RX1) (T := TX1) (N := 8) (ci := 2) hx hb hts in2 hown hG hL48 fK49 (by decide) rfl 2 (by decide) rfl (hts (.fieldLink RX6 270 "QuayMesh$Crane" "remembered" "Ljava/util/ArrayList;") (List.mem_of_getElem? (i := 8) rfl)) (u_same (hts (.sameField "QuayMesh$Crane" "QuayMesh$Worker" "remembered" "Ljava/util/ArrayList;") (List.mem_of_getElem? (i := 9) rfl))) (v := .ref q50) (qs_rf eq50) dX6_lift_79 ?_
        refine lv_aload_n hx hb dX6_lift_82 rfl (lv_at hl 3 rfl) ?_
        obtain ⟨⟨hL53, fK54⟩, h⟩ := h
        obtain ⟨mck51, msk51, ⟨hs52c, hs52s⟩, h⟩ := h
        refine qc_i hG (va_runV (As := [.ref a2z]) (rest := []) ⟨hx, hb, hml, hown, hts⟩ (c_Jx4a65c_add_9ea2d l g _ S47 q50 a2z h) (cwV 1 hts gX6_lift_Jx4a65c_add_9ea2d rfl rfl rfl (by decide +kernel) ⟨(Nat.le_of_ble_eq_true rfl), (Nat.le_of_ble_eq_true rfl)⟩) ⟨qs_Pc.blind _ _ _ _, hG.recv hL53 fK54 (by decide) rfl, hG.pre _⟩ rfl rfl hl.1 rfl (lv_room (Nat.le_of_ble_eq_true rfl)) dX6_lift_83 ⟨Nat.le_trans hs52c hmR, Nat.le_trans hs52s hsR⟩) (fun v56 S55 H locs h hG => ?_)
        have hkc := hs52c
        have hks := hs52s
        refine lv_pop hx hb dX6_lift_86 rfl ?_
        refine lv_aload_n hx hb dX6_lift_87 rfl (lv_at hl 1 rfl) ?_
        refine lv_aload_n hx hb dX6_lift_88 rfl (lv_at hl 2 rfl) ?_
        refine lv_aload_n hx hb dX6_lift_89 rfl (lv_at hl 3 rfl) ?_
        obtain ⟨⟨hL59, fK60⟩, h⟩ := h
        obtain ⟨mck57, msk57, ⟨hs58c, hs58s⟩, h⟩ := h
        refine qc_i hG (va_runV (As := [.ref a1z, .ref a2z]) (rest := []) ⟨hx, hb, hml, hown, hts⟩ (c_X6_acknowledge l g _ S55 a0z a1z a2z h) (cwV 2 hts gX6_lift_X6_acknowledge rfl rfl rfl (by decide +kernel) ⟨(Nat.le_of_ble_eq_true rfl), (Nat.le_of_ble_eq_true rfl)⟩) ⟨qs_Pc.blind _ _ _ _, hG.recv hL59 fK60 (by decide) rfl, hG.pre _⟩ rfl rfl hl.1 rfl (lv_room (Nat.le_of_ble_eq_true rfl)) dX6_lift_90 ⟨Nat.le_trans hs58c hmR, Nat.le_trans hs58s hsR⟩) (fun v62 S61 H locs h hG => ?_)
        have hkc := hs58c
        have hks := hs58s
        refine vx_ret ?_
        exact qe_i hx hb hr hlk hG h hkc hks dX6_lift_93
      · have h := h.2 c28
        exact b46 S26 _ _ (0 + mck12) (0 + msk12) ls hkc hks h hG (lv_sub hl [] rfl)
  · have h := h.2 c7
    refine lv_aload_n hx hb dX6_lift_12 rfl (lv_at hl 1 rfl) ?_
    refine lv_aload_n hx hb dX6_lift_13 rfl (lv_at hl 2 rfl) ?_
    refine lv_aload_n hx hb dX6_lift_14 rfl (lv_at hl 3 rfl) ?_
    obtain ⟨⟨hL65, fK66⟩, h⟩ := h
    obtain ⟨mck63, msk63, ⟨hs64c, hs64s⟩, h⟩ := h
    refine qc_i hG (va_runV (As := [.ref a1z, .ref a2z]) (rest := []) ⟨hx, hb, hml, hown, hts⟩ (c_X6_acknowledge l g _ SA a0z a1z a2z h) (cwV 2 hts gX6_lift_X6_acknowledge rfl rfl rfl (by decide +kernel) ⟨(Nat.le_of_ble_eq_true rfl), (Nat.le_of_ble_eq_true rfl)⟩) ⟨qs_Pc.blind _ _ _ _, hG.recv hL65 fK66 (by decide) rfl, hG.pre _⟩ rfl rfl hl.1 rfl (lv_room (Nat.le_of_ble_eq_true rfl)) dX6_lift_15 ⟨Nat.le_trans hs64c hmR, Nat.le_trans hs64s hsR⟩) (fun v68 S67 H locs h hG => ?_)
    have hkc := hs64c
    have hks := hs64s
    refine vx_ret ?_
    exact qe_i hx hb hr hlk hG h hkc hks dX6_lift_18
def wp_X6_handOver (t0 m9 : Nat) (mc ms : Nat) (post : Int32 → qs_S → Prop) (px : String → qs_S → Prop) (SA : qs_S) (a0z : Nat) (a1z : Nat) (a2z : Nat) : Prop := (a1z ∈ qs_L SA ∧ (qs_K SA a1z = 2 ∨ qs_K SA a1z = 5)) ∧ (∀ v3 : Int32, v3 = qs_I SA 3 a1z → (v3 ≤ 0 → (∀ v5 : Int32, v5 = qs_I SA 5 a1z → (v5 = 0 → (∃ q7 : Nat, qs_R SA 2 a1z = some q7 ∧ (wp_X6_indexOf t0 m9 (fun (v11 : Int32) (S10 : qs_S) => (v11 = (-1 : Int32) → ((a1z ∈ qs_L S10 ∧ (qs_K S10 a1z = 2 ∨ qs_K S10 a1z = 5)) ∧ (∀ v15 : Int32, v15 = qs_I S10 0 a1z → ((4 : Int32) ≤ v15 → (∀ v17 : Int32, v17 = qs_I S10 0 a1z → (a0z ∈ qs_L S10 ∧ qs_K S10 a0z = 6) ∧ (∃ mck18 msk18 : Nat, (0 + mck18 ≤ mc ∧ 0 + msk18 ≤ ms) ∧ (wp_X6_truckNumbered t0 m9 mck18 msk18 (fun (o23 : Option Nat) (S22 : qs_S) => ∃ q24 : Nat, o23 = some q24 ∧ ((q24 ∈ qs_L S22 ∧ qs_K S22 q24 = 5) ∧ (post (6 : Int32) (qs_wR S22 7 q24 (some a2z))))) px S10 a0z v17)))) ∧ (¬ (4 : Int32) ≤ v15 → (∀ v27 : Int32, v27 = qs_I S10 0 a1z → (a0z ∈ qs_L S10 ∧ qs_K S10 a0z = 6) ∧ (∃ mck28 msk28 : Nat, (0 + mck28 ≤ mc ∧ 0 + msk28 ≤ ms) ∧ (wp_X6_craneNumbered t0 m9 mck28 msk28 (fun (o33 : Option Nat) (S32 : qs_S) => ∃ q34 : Nat, o33 = some q34 ∧ ((a0z ∈ qs_L S32 ∧ qs_K S32 a0z = 6) ∧ (∃ mck35 msk35 : Nat, (0 + mck28 + mck35 ≤ mc ∧ 0 + msk28 + msk35 ≤ ms) ∧ (wp_X6_lift t0 m9 mck35 msk35 (fun (v40 : Int32) (S39 : qs_S) => post v40 S39) px S32 a0z q34 a2z)))) px S10 a0z v27))))))) ∧ (¬ v11 = (-1 : Int32) → ((a0z ∈ qs_L S10 ∧ qs_K S10 a0z = 6) ∧ (∃ mck41 msk41 : Nat, (0 + mck41 ≤ mc ∧ 0 + msk41 ≤ ms) ∧ (wp_X6_acknowledge t0 m9 mck41 msk41 (fun (v46 : Int32) (S45 : qs_S) => post v46 S45) S10 a0z a1z a2z))))) SA a2z q7))) ∧ (¬ v5 = 0 → (post (2 : Int32) SA)))) ∧ (¬ v3 ≤ 0 → (∀ v47 : Int32, v47 = qs_I SA 3 a1z → ∀ v48 : Int32, v48 = v47 - (1 : Int32) → post (1 : Int32) (qs_wI SA 3 a1z v48))))
set_option maxHeartbeats 4000000 in
set_option maxRecDepth 100000 in
theorem c_X6_handOver (l : Launch) (hl9 : l.stackTraces = false) (g : qs_G) (sz : Nat) (SA : qs_S) (a0z : Nat) (a1z : Nat) (a2z : Nat) {mc ms : Nat} {post : Int32 → qs_S → Prop} {px : String → qs_S → Prop} (h : wp_X6_handOver g.2.2.2.2.2.2.1 g.2.2.2.2.2.2.2 mc ms post px SA a0z a1z a2z) : vx_Met l yX6_handOver wsX6_handOver ({ frames := 10, cells := mc, slots := ms, locals := 236 } : Room) (qs_Pc g sz SA [.ref a0z, .ref a1z, .ref a2z]) (qs_Qi g (qs_F g SA sz) post) (qs_X g (qs_F g SA sz) px) mc ms (qs_F g SA sz) := by
  refine vx_ofW (cc := cX6_handOver) (maxL := 3) (ret := (some .int)) (by decide +kernel) rfl ?_
  intro p e s m args below meth c s₁ B hml hnt hv
  obtain ⟨rfl, hsz, hG⟩ := qs_Gd.start hv
  subst hsz
  have hx := B.exec
  have hb := B.bytes
  have hr := B.returns
  have hts := atoms_spec (ws := wsX6_handOver) B.pre
  have hown : s.vm.findClass RX6 = some m.cls := findClass_of_methodNamed B.named
  have hlk := B.notSynchronized
  have in0 : ∀ w ∈ u_ws RJx4a65c TJx4a65c 3, w ∈ wsX6_handOver := fun w h => List.mem_cons_of_mem _ (List.mem_append_left _ (List.mem_append_left _ (List.mem_append_left _ (List.mem_append_left _ (List.mem_append_right _ (h))))))
  have in1 : ∀ w ∈ u_ws RX0 TX0 8, w ∈ wsX6_handOver := fun w h => List.mem_cons_of_mem _ (List.mem_append_left _ (List.mem_append_right _ (h)))
  have in2 : ∀ w ∈ u_ws RX1 TX1 8, w ∈ wsX6_handOver := fun w h => List.mem_cons_of_mem _ (List.mem_append_left _ (List.mem_append_left _ (List.mem_append_left _ (List.mem_append_left _ (List.mem_append_left _ (List.mem_append_left _ (List.mem_append_right _ (h))))))))
  have in3 : ∀ w ∈ u_ws RX2 TX2 7, w ∈ wsX6_handOver := fun w h => List.mem_cons_of_mem _ (List.mem_append_left _ (List.mem_append_left _ (List.mem_append_left _ (List.mem_append_right _ (h)))))
  have in5 : ∀ w ∈ u_ws RX4 TX4 8, w ∈ wsX6_handOver := fun w h => List.mem_cons_of_mem _ (List.mem_append_left _ (List.mem_append_left _ (List.mem_append_left _ (List.mem_append_left _ (List.mem_append_left _ (List.mem_append_right _ (h)))))))
  have in6 : ∀ w ∈ u_ws RX6 TX6 8, w ∈ wsX6_handOver := fun w h => List.mem_cons_of_mem _ (List.mem_append_left _ (List.mem_append_left _ (List.mem_append_right _ (h))))
  have hkc : 0 ≤ mc := Nat.zero_le _
  have hks : 0 ≤ ms := Nat.zero_le _
  have hmR : mc ≤ (headSpec wsX6_handOver ({ frames := 10, cells := mc, slots := ms, locals := 236 } : Room)).room.cells := Nat.le_refl _
  have hsR : ms ≤ (headSpec wsX6_handOver ({ frames := 10, cells := mc, slots := ms, locals := 236 } : Room)).room.slots := Nat.le_refl _
  have hl := lv_entry ([.ref a0z, .ref a1z, .ref a2z]) (n := 3) (Nat.le_of_ble_eq_true rfl)
  rw [lg_entry_eq]
  generalize (lg_sl ([.ref a0z, .ref a1z, .ref a2z]) ++ List.replicate (3 - (lg_sl ([.ref a0z, .ref a1z, .ref a2z])).length) Slot.unset).toArray = ls at hl ⊢
  have hl : lv_has ls 3 [(0, .ref a0z), (1, .ref a1z), (2, .ref a2z)] := hl
  unfold wp_X6_handOver at h
  refine lv_aload_n hx hb dX6_handOver_0 rfl (lv_at hl 1 rfl) ?_
  obtain ⟨⟨hL1, fK2⟩, h⟩ := h
  refine qr_getW hx hb hts in2 in5 hown hG hL1 fK2 3 (by decide) rfl ⟨rfl, rfl⟩ (hts (.fieldLink RX6 210 "QuayMesh$Worker" "lossesOfMessages" "I") (List.mem_of_getElem? (i := 1) rfl)) (fun _ h9 => h9) (fun _ h9 => h9) (v := .int (qs_I SA 3 a1z)) rfl dX6_handOver_1 ?_
  refine lv_topi (fun v3 ev3 => ?_)
  have h := h v3 ev3
  refine lv_if_le (tgt := 19) hx hb dX6_handOver_4 (by decide) (fun c4 => ?_) (fun c4 => ?_)
  · have h := h.1 c4
    refine lv_aload_n hx hb dX6_handOver_19 rfl (lv_at hl 1 rfl) ?_
    refine qr_getW hx hb hts in2 in5 hown hG hL1 fK2 5 (by decide) rfl ⟨rfl, rfl⟩ (hts (.fieldLink RX6 242 "QuayMesh$Worker" "isSilent" "Z") (List.mem_of_getElem? (i := 2) rfl)) (fun _ h9 => h9) (fun _ h9 => h9) (v := .int (qs_I SA 5 a1z)) rfl dX6_handOver_20 ?_
    refine lv_topi (fun v5 ev5 => ?_)
    have h := h v5 ev5
    refine lv_if_eq (tgt := 28) hx hb dX6_handOver_23 (by decide) (fun c6 => ?_) (fun c6 => ?_)
    · have h := h.1 c6
      refine lv_aload_n hx hb dX6_handOver_28 rfl (lv_at hl 2 rfl) ?_
      refine lv_aload_n hx hb dX6_handOver_29 rfl (lv_at hl 1 rfl) ?_
      obtain ⟨q7, eq7, h⟩ := h
      refine qr_getW hx hb hts in2 in5 hown hG hL1 fK2 2 (by decide) rfl ⟨rfl, rfl⟩ (hts (.fieldLink RX6 247 "QuayMesh$Worker" "remembered" "Ljava/util/ArrayList;") (List.mem_of_getElem? (i := 3) rfl)) (fun _ h9 => h9) (fun _ h9 => h9) (v := .ref q7) (qs_rf eq7) dX6_handOver_30 ?_
      refine qc_i hG (va_runS (As := [.ref a2z, .ref q7]) (rest := []) ⟨hx, hb, hml, hown, hts⟩ (c_X6_indexOf l g _ SA a2z q7 h) (va_cwS 2 hts gX6_handOver_X6_indexOf rfl rfl rfl (by decide +kernel) ⟨(Nat.le_of_ble_eq_true rfl), (Nat.le_of_ble_eq_true rfl)⟩) ⟨qs_Pc.blind _ _ _ _, hG.pre _⟩ rfl rfl hl.1 rfl (lv_room (Nat.le_of_ble_eq_true rfl)) dX6_handOver_33 ⟨Nat.le_trans hkc hmR, Nat.le_trans hks hsR⟩) (fun v11 S10 H locs h hG => ?_)
      refine lv_iconst (v := (-1 : Int32)) hx hb dX6_handOver_36 (by decide +kernel) ?_
      refine lv_icmp_eq (tgt := 47) hx hb dX6_handOver_37 (by decide) (fun c12 => ?_) (fun c12 => ?_)
      · have h := h.1 c12
        refine lv_aload_n hx hb dX6_handOver_47 rfl (lv_at hl 1 rfl) ?_
        obtain ⟨⟨hL13, fK14⟩, h⟩ := h
        refine qr_getW hx hb hts in2 in5 hown hG hL13 fK14 0 (by decide) rfl ⟨rfl, rfl⟩ (hts (.fieldLink RX6 253 "QuayMesh$Worker" "number" "I") (List.mem_of_getElem? (i := 4) rfl)) (fun _ h9 => h9) (fun _ h9 => h9) (v := .int (qs_I S10 0 a1z)) rfl dX6_handOver_48 ?_
        refine lv_topi (fun v15 ev15 => ?_)
        have h := h v15 ev15
        refine lv_iconst (v := (4 : Int32)) hx hb dX6_handOver_51 (by decide +kernel) ?_
        refine lv_icmp_ge (tgt := 69) hx hb dX6_handOver_52 (by decide) (fun c16 => ?_) (fun c16 => ?_)
        · have h := h.1 c16
          refine lv_aload_n hx hb dX6_handOver_69 rfl (lv_at hl 0 rfl) ?_
          refine lv_aload_n hx hb dX6_handOver_70 rfl (lv_at hl 1 rfl) ?_
          refine qr_getW hx hb hts in2 in5 hown hG hL13 fK14 0 (by decide) rfl ⟨rfl, rfl⟩ (hts (.fieldLink RX6 253 "QuayMesh$Worker" "number" "I") (List.mem_of_getElem? (i := 4) rfl)) (fun _ h9 => h9) (fun _ h9 => h9) (v := .int (qs_I S10 0 a1z)) rfl dX6_handOver_71 ?_
          refine lv_topi (fun v17 ev17 => ?_)
          have h := h v17 ev17
          obtain ⟨⟨hL20, fK21⟩, h⟩ := h
          obtain ⟨mck18, msk18, ⟨hs19c, hs19s⟩, h⟩ := h
          refine qx_q hG (vx_runV (As := [.int v17]) (rest := []) ⟨hx, hb, hml, hown, hts⟩ (c_X6_truckNumbered l hl9 g _ S10 a0z v17 h) (cwV 1 hts gX6_handOver_X6_truckNumbered rfl rfl rfl (by decide +kernel) ⟨(Nat.le_of_ble_eq_true rfl), (Nat.le_of_ble_eq_true rfl)⟩) ⟨qs_Pc.blind _ _ _ _, hG.recv hL20 fK21 (by decide) rfl, hG.pre _⟩ rfl rfl hl.1 rfl (lv_room (Nat.le_of_ble_eq_true rfl)) dX6_handOver_74 ⟨Nat.le_trans hs19c hmR, Nat.le_trans hs19s hsR⟩) (fun E S1 H locs ce q9 hp hG h1 h2 h3 => qx_out hnt hlk hG hp h1 h2 h3 hs19c hs19s) (fun o23 S22 H locs h hG => ?_)
          have hkc := hs19c
          have hks := hs19s
          obtain ⟨q24, rfl, h⟩ := h
          refine lv_aload_n hx hb dX6_handOver_77 rfl (lv_at hl 2 rfl) ?_
          obtain ⟨⟨hL25, fK26⟩, h⟩ := h
          refine qr_putR (C := RX4) (T := TX4) (N := 8) (ci := 5) hx hb hts in5 tyX4 tyX4_ok nmX4 hown hG hL25 fK26 (by decide) rfl 7 (by decide) rfl (hts (.fieldLink RX6 173 "QuayMesh$Truck" "lastSeen" "LQuayMesh$Message;") (List.mem_of_getElem? (i := 5) rfl)) (fun _ h9 => h9) rfl (x := some a2z) rfl (tyX4_ok 7 (by decide)) rfl rfl dX6_handOver_78 (fun H locs hG => ?_)
          refine lv_bipush (v := (6 : Int32)) hx hb dX6_handOver_81 (by decide +kernel) ?_
          refine vx_ret ?_
          exact qe_i hx hb hr hlk hG h hkc hks dX6_handOver_83
        · have h := h.2 c16
          refine lv_aload_n hx hb dX6_handOver_55 rfl (lv_at hl 0 rfl) ?_
          refine lv_aload_n hx hb dX6_handOver_56 rfl (lv_at hl 0 rfl) ?_
          refine lv_aload_n hx hb dX6_handOver_57 rfl (lv_at hl 1 rfl) ?_
          refine qr_getW hx hb hts in2 in5 hown hG hL13 fK14 0 (by decide) rfl ⟨rfl, rfl⟩ (hts (.fieldLink RX6 253 "QuayMesh$Worker" "number" "I") (List.mem_of_getElem? (i := 4) rfl)) (fun _ h9 => h9) (fun _ h9 => h9) (v := .int (qs_I S10 0 a1z)) rfl dX6_handOver_58 ?_
          refine lv_topi (fun v27 ev27 => ?_)
          have h := h v27 ev27
          obtain ⟨⟨hL30, fK31⟩, h⟩ := h
          obtain ⟨mck28, msk28, ⟨hs29c, hs29s⟩, h⟩ := h
          refine qx_q hG (vx_runV (As := [.int v27]) (rest := [.ref a0z]) ⟨hx, hb, hml, hown, hts⟩ (c_X6_craneNumbered l hl9 g _ S10 a0z v27 h) (cwV 1 hts gX6_handOver_X6_craneNumbered rfl rfl rfl (by decide +kernel) ⟨(Nat.le_of_ble_eq_true rfl), (Nat.le_of_ble_eq_true rfl)⟩) ⟨qs_Pc.blind _ _ _ _, hG.recv hL30 fK31 (by decide) rfl, hG.pre _⟩ rfl rfl hl.1 rfl (lv_room (Nat.le_of_ble_eq_true rfl)) dX6_handOver_61 ⟨Nat.le_trans hs29c hmR, Nat.le_trans hs29s hsR⟩) (fun E S1 H locs ce q9 hp hG h1 h2 h3 => qx_out hnt hlk hG hp h1 h2 h3 hs29c hs29s) (fun o33 S32 H locs h hG => ?_)
          have hkc := hs29c
          have hks := hs29s
          obtain ⟨q34, rfl, h⟩ := h
          refine lv_aload_n hx hb dX6_handOver_64 rfl (lv_at hl 2 rfl) ?_
          obtain ⟨⟨hL37, fK38⟩, h⟩ := h
          obtain ⟨mck35, msk35, ⟨hs36c, hs36s⟩, h⟩ := h
          refine qx_i hG (vx_runV (As := [.ref q34, .ref a2z]) (rest := []) ⟨hx, hb, hml, hown, hts⟩ (c_X6_lift l hl9 g _ S32 a0z q34 a2z h) (cwV 2 hts gX6_handOver_X6_lift rfl rfl rfl (by decide +kernel) ⟨(Nat.le_of_ble_eq_true rfl), (Nat.le_of_ble_eq_true rfl)⟩) ⟨qs_Pc.blind _ _ _ _, hG.recv hL37 fK38 (by decide) rfl, hG.pre _⟩ rfl rfl hl.1 rfl (lv_room (Nat.le_of_ble_eq_true rfl)) dX6_handOver_65 ⟨Nat.le_trans hs36c hmR, Nat.le_trans hs36s hsR⟩) (fun E S1 H locs ce q9 hp hG h1 h2 h3 => qx_out hnt hlk hG hp h1 h2 h3 hs36c hs36s) (fun v40 S39 H locs h hG => ?_)
          have hkc := hs36c
          have hks := hs36s
          refine vx_ret ?_
          exact qe_i hx hb hr hlk hG h hkc hks dX6_handOver_68
      · have h := h.2 c12
        refine lv_aload_n hx hb dX6_handOver_40 rfl (lv_at hl 0 rfl) ?_
        refine lv_aload_n hx hb dX6_handOver_41 rfl (lv_at hl 1 rfl) ?_
        refine lv_aload_n hx hb dX6_handOver_42 rfl (lv_at hl 2 rfl) ?_
        obtain ⟨⟨hL43, fK44⟩, h⟩ := h
        obtain ⟨mck41, msk41, ⟨hs42c, hs42s⟩, h⟩ := h
        refine qc_i hG (va_runV (As := [.ref a1z, .ref a2z]) (rest := []) ⟨hx, hb, hml, hown, hts⟩ (c_X6_acknowledge l g _ S10 a0z a1z a2z h) (cwV 2 hts gX6_handOver_X6_acknowledge rfl rfl rfl (by decide +kernel) ⟨(Nat.le_of_ble_eq_true rfl), (Nat.le_of_ble_eq_true rfl)⟩) ⟨qs_Pc.blind _ _ _ _, hG.recv hL43 fK44 (by decide) rfl, hG.pre _⟩ rfl rfl hl.1 rfl (lv_room (Nat.le_of_ble_eq_true rfl)) dX6_handOver_43 ⟨Nat.le_trans hs42c hmR, Nat.le_trans hs42s hsR⟩) (fun v46 S45 H locs h hG => ?_)
        have hkc := hs42c
        have hks := hs42s
        refine vx_ret ?_
        exact qe_i hx hb hr hlk hG h hkc hks dX6_handOver_46
    · have h := h.2 c6
      refine lv_iconst (v := (2 : Int32)) hx hb dX6_handOver_26 (by decide +kernel) ?_
      refine vx_ret ?_
      exact qe_i hx hb hr hlk hG h hkc hks dX6_handOver_27
  · have h := h.2 c4
    refine lv_aload_n hx hb dX6_handOver_7 rfl (lv_at hl 1 rfl) ?_
    refine lv_dup hx hb dX6_handOver_8 rfl ?_
    refine qr_getW hx hb hts in2 in5 hown hG hL1 fK2 3 (by decide) rfl ⟨rfl, rfl⟩ (hts (.fieldLink RX6 210 "QuayMesh$Worker" "lossesOfMessages" "I") (List.mem_of_getElem? (i := 1) rfl)) (fun _ h9 => h9) (fun _ h9 => h9) (v := .int (qs_I SA 3 a1z)) rfl dX6_handOver_9 ?_
    refine lv_topi (fun v47 ev47 => ?_)
    have h := h v47 ev47
    refine lv_iconst (v := (1 : Int32)) hx hb dX6_handOver_12 (by decide +kernel) ?_
    refine lv_isub hx hb dX6_handOver_13 ?_
    refine lv_topi (fun v48 ev48 => ?_)
    have h := h v48 ev48
    refine qr_putIW hx hb hts in2 in5 hown hG hL1 fK2 3 (by decide) rfl ⟨rfl, rfl⟩ (hts (.fieldLink RX6 210 "QuayMesh$Worker" "lossesOfMessages" "I") (List.mem_of_getElem? (i := 1) rfl)) (fun _ h9 => h9) (fun _ h9 => h9) rfl (x := v48) (tyX1_ok 3 (by decide)) rfl rfl dX6_handOver_14 (fun H locs hG => ?_)
    refine lv_iconst (v := (1 : Int32)) hx hb dX6_handOver_17 (by decide +kernel) ?_
    refine vx_ret ?_
    exact qe_i hx hb hr hlk hG h hkc hks dX6_handOver_18
def wp_X6_slotsLeft_b40 (t0 m9 : Nat) (post : Int32 → qs_S → Prop) (K5 : qs_S → Nat → Int32 → Int32 → Int32 → Int32 → Prop) (S : qs_S) (a0 : Nat) (x1 : Int32) (x2 : Int32) (x3 : Int32) (x4 : Int32) : Prop := ∀ v1 : Int32, v1 = x4 + 1 → K5 S a0 x1 x2 x3 v1
def wp_X6_slotsLeft_c5 (t0 m9 : Nat) (post : Int32 → qs_S → Prop) (K5 : qs_S → Nat → Int32 → Int32 → Int32 → Int32 → Prop) (S : qs_S) (a0 : Nat) (x1 : Int32) (x2 : Int32) (x3 : Int32) (x4 : Int32) : Prop := (a0 ∈ qs_L S ∧ qs_K S a0 = 6) ∧ (∃ q4 : Nat, qs_R S 1 a0 = some q4 ∧ ((q4 ∈ qs_L S ∧ qs_K S q4 = 0) ∧ (wp_Jx4a65c_size_8abf5 t0 m9 (fun (v10 : Int32) (S9 : qs_S) => (v10 ≤ x4 → (post x3 S9)) ∧ (¬ v10 ≤ x4 → ((a0 ∈ qs_L S9 ∧ qs_K S9 a0 = 6) ∧ (∃ q14 : Nat, qs_R S9 1 a0 = some q14 ∧ ((q14 ∈ qs_L S9 ∧ qs_K S9 q14 = 0) ∧ (wp_Jx4a65c_get_915e3 t0 m9 (fun (o20 : Option Nat) (S19 : qs_S) => ∃ q21 : Nat, o20 = some q21 ∧ ((q21 ∈ qs_L S19 ∧ qs_K S19 q21 = 1) ∧ (wp_X0_isBookedAt t0 m9 (fun (v27 : Int32) (S26 : qs_S) => (v27 = 0 → (wp_X6_slotsLeft_b40 t0 m9 post K5 S26 a0 x1 x2 x3 x4)) ∧ (¬ v27 = 0 → (∀ v29 : Int32, v29 = x3 + (-1) → wp_X6_slotsLeft_b40 t0 m9 post K5 S26 a0 x1 x2 v29 x4))) S19 q21 x1 x2))) S9 q14 x4)))))) S q4)))
def wp_X6_slotsLeft_b5 (t0 m9 : Nat) (post : Int32 → qs_S → Prop) : Nat → qs_S → Nat → Int32 → Int32 → Int32 → Int32 → Prop
  | 0 => fun _ _ _ _ _ _ => False
  | n9 + 1 => wp_X6_slotsLeft_c5 t0 m9 post (wp_X6_slotsLeft_b5 t0 m9 post n9)
def wp_X6_slotsLeft (t0 m9 : Nat) (post : Int32 → qs_S → Prop) (SA : qs_S) (a0z : Nat) (x1z : Int32) (x2z : Int32) : Prop := ∃ n30 : Nat, wp_X6_slotsLeft_b5 t0 m9 post n30 SA a0z x1z x2z (2 : Int32) (0 : Int32)
set_option maxHeartbeats 4000000 in
set_option maxRecDepth 100000 in
theorem c_X6_slotsLeft (l : Launch) (g : qs_G) (sz : Nat) (SA : qs_S) (a0z : Nat) (x1z : Int32) (x2z : Int32) {post : Int32 → qs_S → Prop} (h : wp_X6_slotsLeft g.2.2.2.2.2.2.1 g.2.2.2.2.2.2.2 post SA a0z x1z x2z) : Met l yX6_slotsLeft wsX6_slotsLeft ({ frames := 3, cells := 0, slots := 0, locals := 64 } : Room) (qs_Pc g sz SA [.ref a0z, .int x1z, .int x2z]) (qs_Qi g (qs_F g SA sz) post) 0 0 (qs_F g SA sz) := by
  refine Met.ofW (cc := cX6_slotsLeft) (maxL := 5) (ret := (some .int)) (by decide +kernel) rfl ?_
  intro p e s m args below meth c s₁ B hml hv
  obtain ⟨rfl, hsz, hG⟩ := qs_Gd.start hv
  subst hsz
  have hx := B.exec
  have hb := B.bytes
  have hr := B.returns
  have hts := atoms_spec (ws := wsX6_slotsLeft) B.pre
  have hown : s.vm.findClass RX6 = some m.cls := findClass_of_methodNamed B.named
  have hlk := B.notSynchronized
  have in0 : ∀ w ∈ u_ws RJx4a65c TJx4a65c 3, w ∈ wsX6_slotsLeft := fun w h => List.mem_cons_of_mem _ (List.mem_append_left _ (List.mem_append_right _ (h)))
  have in1 : ∀ w ∈ u_ws RX0 TX0 8, w ∈ wsX6_slotsLeft := fun w h => List.mem_cons_of_mem _ (List.mem_append_right _ (h))
  have in6 : ∀ w ∈ u_ws RX6 TX6 8, w ∈ wsX6_slotsLeft := fun w h => List.mem_cons_of_mem _ (List.mem_append_left _ (List.mem_append_left _ (List.mem_append_right _ (h))))
  have b40 : ∀ (K5 : qs_S → Nat → Int32 → Int32 → Int32 → Int32 → Prop), (∀ (S : qs_S) (a0 : Nat) (x1 : Int32) (x2 : Int32) (x3 : Int32) (x4 : Int32) (H : Heap) (locs : List Loc) (ls : Array Slot), K5 S a0 x1 x2 x3 x4 → qs_Gd g (qs_F g SA s.heap.size) s S H locs → lv_has ls 5 [(0, .ref a0), (1, .int x1), (2, .int x2), (3, .int x3), (4, .int x4)] → W p l e (headSpec wsX6_slotsLeft ({ frames := 3, cells := 0, slots := 0, locals := 64 } : Room)).room s m (([.ref a0z, .int x1z, .int x2z] : List Value)).toArray below meth c H locs 0 0 (MQ below (qs_Qi g (qs_F g SA s.heap.size) post) (([.ref a0z, .int x1z, .int x2z] : List Value)).toArray s 0 0 (qs_F g SA s.heap.size)) (F0 m 5 ls [])) → ∀ (S : qs_S) (a0 : Nat) (x1 : Int32) (x2 : Int32) (x3 : Int32) (x4 : Int32) (H : Heap) (locs : List Loc) (ls : Array Slot), wp_X6_slotsLeft_b40 g.2.2.2.2.2.2.1 g.2.2.2.2.2.2.2 post K5 S a0 x1 x2 x3 x4 → qs_Gd g (qs_F g SA s.heap.size) s S H locs → lv_has ls 5 [(0, .ref a0), (1, .int x1), (2, .int x2), (3, .int x3), (4, .int x4)] → W p l e (headSpec wsX6_slotsLeft ({ frames := 3, cells := 0, slots := 0, locals := 64 } : Room)).room s m (([.ref a0z, .int x1z, .int x2z] : List Value)).toArray below meth c H locs 0 0 (MQ below (qs_Qi g (qs_F g SA s.heap.size) post) (([.ref a0z, .int x1z, .int x2z] : List Value)).toArray s 0 0 (qs_F g SA s.heap.size)) (F0 m 40 ls []) := by
    intro K5 hK5 S a0 x1 x2 x3 x4 H locs ls h hG hl
    unfold wp_X6_slotsLeft_b40 at h
    obtain ⟨v1, ev1⟩ : ∃ y : Int32, y = x4 + 1 := ⟨_, rfl⟩
    have h := h v1 ev1
    refine lv_iinc (v := v1) (lv' := [(4, .int v1), (0, .ref a0), (1, .int x1), (2, .int x2), (3, .int x3)]) hx hb dX6_slotsLeft_40 hl (k := 4) rfl (by rw [ev1]; rfl) (by decide) rfl (fun ls hl => ?_)
    refine lv_goto (tgt := 5) hx hb dX6_slotsLeft_43 (by decide) ?_
    exact hK5 S a0 x1 x2 x3 v1 _ _ ls h hG (lv_sub hl [1, 2, 3, 4, 0] rfl)
  have c5 : ∀ (K5 : qs_S → Nat → Int32 → Int32 → Int32 → Int32 → Prop), (∀ (S : qs_S) (a0 : Nat) (x1 : Int32) (x2 : Int32) (x3 : Int32) (x4 : Int32) (H : Heap) (locs : List Loc) (ls : Array Slot), K5 S a0 x1 x2 x3 x4 → qs_Gd g (qs_F g SA s.heap.size) s S H locs → lv_has ls 5 [(0, .ref a0), (1, .int x1), (2, .int x2), (3, .int x3), (4, .int x4)] → W p l e (headSpec wsX6_slotsLeft ({ frames := 3, cells := 0, slots := 0, locals := 64 } : Room)).room s m (([.ref a0z, .int x1z, .int x2z] : List Value)).toArray below meth c H locs 0 0 (MQ below (qs_Qi g (qs_F g SA s.heap.size) post) (([.ref a0z, .int x1z, .int x2z] : List Value)).toArray s 0 0 (qs_F g SA s.heap.size)) (F0 m 5 ls [])) → ∀ (S : qs_S) (a0 : Nat) (x1 : Int32) (x2 : Int32) (x3 : Int32) (x4 : Int32) (H : Heap) (locs : List Loc) (ls : Array Slot), wp_X6_slotsLeft_c5 g.2.2.2.2.2.2.1 g.2.2.2.2.2.2.2 post K5 S a0 x1 x2 x3 x4 → qs_Gd g (qs_F g SA s.heap.size) s S H locs → lv_has ls 5 [(0, .ref a0), (1, .int x1), (2, .int x2), (3, .int x3), (4, .int x4)] → W p l e (headSpec wsX6_slotsLeft ({ frames := 3, cells := 0, slots := 0, locals := 64 } : Room)).room s m (([.ref a0z, .int x1z, .int x2z] : List Value)).toArray below meth c H locs 0 0 (MQ below (qs_Qi g (qs_F g SA s.heap.size) post) (([.ref a0z, .int x1z, .int x2z] : List Value)).toArray s 0 0 (qs_F g SA s.heap.size)) (F0 m 5 ls []) := by
    intro K5 hK5 S a0 x1 x2 x3 x4 H locs ls h hG hl
    unfold wp_X6_slotsLeft_c5 at h
    refine lv_iload hx hb dX6_slotsLeft_5 (lv_at hl 4 rfl) ?_
    refine lv_aload_n hx hb dX6_slotsLeft_7 rfl (lv_at hl 0 rfl) ?_
    obtain ⟨⟨hL2, fK3⟩, h⟩ := h
    obtain ⟨q4, eq4, h⟩ := h
    refine qr_get (C := RX6) (T := TX6) (N := 8) (ci := 6) hx hb hts in6 hown hG hL2 fK3 (by decide) rfl 1 (by decide) rfl (hts (.fieldLink RX6 16 "QuayMesh" "allBoxes" "Ljava/util/ArrayList;") (List.mem_of_getElem? (i := 1) rfl)) (fun _ h9 => h9) (v := .ref q4) (qs_rf eq4) dX6_slotsLeft_8 ?_
    obtain ⟨⟨hL7, fK8⟩, h⟩ := h
    refine qc_i hG (va_runV (As := []) (rest := [.int x4]) ⟨hx, hb, hml, hown, hts⟩ (c_Jx4a65c_size_8abf5 l g _ S q4 h) (cwV 0 hts gX6_slotsLeft_Jx4a65c_size_8abf5 rfl rfl rfl (by decide +kernel) ⟨(Nat.le_of_ble_eq_true rfl), (Nat.le_of_ble_eq_true rfl)⟩) ⟨qs_Pc.blind _ _ _ _, hG.recv hL7 fK8 (by decide) rfl, hG.pre _⟩ rfl rfl hl.1 rfl (lv_room (Nat.le_of_ble_eq_true rfl)) dX6_slotsLeft_11 ⟨Nat.zero_le _, Nat.zero_le _⟩) (fun v10 S9 H locs h hG => ?_)
    refine lv_icmp_ge (tgt := 46) hx hb dX6_slotsLeft_14 (by decide) (fun c11 => ?_) (fun c11 => ?_)
    · have h := h.1 c11
      refine lv_iload_n hx hb dX6_slotsLeft_46 rfl (lv_at hl 3 rfl) ?_
      exact qe_i hx hb hr hlk hG h (Nat.le_refl _) (Nat.le_refl _) dX6_slotsLeft_47
    · have h := h.2 c11
      refine lv_aload_n hx hb dX6_slotsLeft_17 rfl (lv_at hl 0 rfl) ?_
      obtain ⟨⟨hL12, fK13⟩, h⟩ := h
      obtain ⟨q14, eq14, h⟩ := h
      refine qr_get (C := RX6) (T := TX6) (N := 8) (ci := 6) hx hb hts in6 hown hG hL12 fK13 (by decide) rfl 1 (by decide) rfl (hts (.fieldLink RX6 16 "QuayMesh" "allBoxes" "Ljava/util/ArrayList;") (List.mem_of_getElem? (i := 1) rfl)) (fun _ h9 => h9) (v := .ref q14) (qs_rf eq14) dX6_slotsLeft_18 ?_
      refine lv_iload hx hb dX6_slotsLeft_21 (lv_at hl 4 rfl) ?_
      obtain ⟨⟨hL17, fK18⟩, h⟩ := h
      refine qc_q hG (va_runV (As := [.int x4]) (rest := []) ⟨hx, hb, hml, hown, hts⟩ (c_Jx4a65c_get_915e3 l g _ S9 q14 x4 h) (cwV 1 hts gX6_slotsLeft_Jx4a65c_get_915e3 rfl rfl rfl (by decide +kernel) ⟨(Nat.le_of_ble_eq_true rfl), (Nat.le_of_ble_eq_true rfl)⟩) ⟨qs_Pc.blind _ _ _ _, hG.recv hL17 fK18 (by decide) rfl, hG.pre _⟩ rfl rfl hl.1 rfl (lv_room (Nat.le_of_ble_eq_true rfl)) dX6_slotsLeft_23 ⟨Nat.zero_le _, Nat.zero_le _⟩) (fun o20 S19 H locs h hG => ?_)
      obtain ⟨q21, rfl, h⟩ := h
      obtain ⟨⟨hL22, fK23⟩, h⟩ := h
      refine qr_cast (N := 8) hx hb hG hL22 fK23 (by decide) rfl hown (hts (.classLink RX6 92 "QuayMesh$Box") (List.mem_of_getElem? (i := 2) rfl)) dX6_slotsLeft_26 ?_
      refine lv_iload_n hx hb dX6_slotsLeft_29 rfl (lv_at hl 1 rfl) ?_
      refine lv_iload_n hx hb dX6_slotsLeft_30 rfl (lv_at hl 2 rfl) ?_
      refine qc_i hG (va_runV (As := [.int x1, .int x2]) (rest := []) ⟨hx, hb, hml, hown, hts⟩ (c_X0_isBookedAt l g _ S19 q21 x1 x2 h) (cwV 2 hts gX6_slotsLeft_X0_isBookedAt rfl rfl rfl (by decide +kernel) ⟨(Nat.le_of_ble_eq_true rfl), (Nat.le_of_ble_eq_true rfl)⟩) ⟨qs_Pc.blind _ _ _ _, hG.recv hL22 fK23 (by decide) rfl, hG.pre _⟩ rfl rfl hl.1 rfl (lv_room (Nat.le_of_ble_eq_true rfl)) dX6_slotsLeft_31 ⟨Nat.zero_le _, Nat.zero_le _⟩) (fun v27 S26 H locs h hG => ?_)
      refine lv_if_eq (tgt := 40) hx hb dX6_slotsLeft_34 (by decide) (fun c28 => ?_) (fun c28 => ?_)
      · have h := h.1 c28
        exact b40 K5 hK5 S26 a0 x1 x2 x3 x4 _ _ ls h hG (lv_sub hl [0, 1, 2, 3, 4] rfl)
      · have h := h.2 c28
        obtain ⟨v29, ev29⟩ : ∃ y : Int32, y = x3 + (-1) := ⟨_, rfl⟩
        have h := h v29 ev29
        refine lv_iinc (v := v29) (lv' := [(3, .int v29), (0, .ref a0), (1, .int x1), (2, .int x2), (4, .int x4)]) hx hb dX6_slotsLeft_37 hl (k := 3) rfl (by rw [ev29]; rfl) (by decide) rfl (fun ls hl => ?_)
        exact b40 K5 hK5 S26 a0 x1 x2 v29 x4 _ _ ls h hG (lv_sub hl [1, 2, 3, 0, 4] rfl)
  have b5 : ∀ n9 : Nat, ∀ (S : qs_S) (a0 : Nat) (x1 : Int32) (x2 : Int32) (x3 : Int32) (x4 : Int32) (H : Heap) (locs : List Loc) (ls : Array Slot), wp_X6_slotsLeft_b5 g.2.2.2.2.2.2.1 g.2.2.2.2.2.2.2 post n9 S a0 x1 x2 x3 x4 → qs_Gd g (qs_F g SA s.heap.size) s S H locs → lv_has ls 5 [(0, .ref a0), (1, .int x1), (2, .int x2), (3, .int x3), (4, .int x4)] → W p l e (headSpec wsX6_slotsLeft ({ frames := 3, cells := 0, slots := 0, locals := 64 } : Room)).room s m (([.ref a0z, .int x1z, .int x2z] : List Value)).toArray below meth c H locs 0 0 (MQ below (qs_Qi g (qs_F g SA s.heap.size) post) (([.ref a0z, .int x1z, .int x2z] : List Value)).toArray s 0 0 (qs_F g SA s.heap.size)) (F0 m 5 ls []) := by
    intro n9
    induction n9 with
    | zero =>
      intro S a0 x1 x2 x3 x4 H locs ls h hG hl
      exact False.elim h
    | succ n9 ih => exact c5 _ ih
  have hl := lv_entry ([.ref a0z, .int x1z, .int x2z]) (n := 5) (Nat.le_of_ble_eq_true rfl)
  rw [lg_entry_eq]
  generalize (lg_sl ([.ref a0z, .int x1z, .int x2z]) ++ List.replicate (5 - (lg_sl ([.ref a0z, .int x1z, .int x2z])).length) Slot.unset).toArray = ls at hl ⊢
  have hl : lv_has ls 5 [(0, .ref a0z), (1, .int x1z), (2, .int x2z)] := hl
  unfold wp_X6_slotsLeft at h
  refine lv_iconst (v := (2 : Int32)) hx hb dX6_slotsLeft_0 (by decide +kernel) ?_
  refine lv_istore_n (lv' := [(3, .int (2 : Int32)), (0, .ref a0z), (1, .int x1z), (2, .int x2z)]) hx hb dX6_slotsLeft_1 rfl hl (by decide) rfl (fun ls hl => ?_)
  refine lv_iconst (v := (0 : Int32)) hx hb dX6_slotsLeft_2 (by decide +kernel) ?_
  refine lv_istore (lv' := [(4, .int (0 : Int32)), (3, .int (2 : Int32)), (0, .ref a0z), (1, .int x1z), (2, .int x2z)]) hx hb dX6_slotsLeft_3 hl (by decide) rfl (fun ls hl => ?_)
  obtain ⟨n30, h⟩ := h
  exact b5 n30 SA a0z x1z x2z (2 : Int32) (0 : Int32) _ _ ls h hG (lv_sub hl [2, 3, 4, 1, 0] rfl)
def wp_X6_canComeOut_b68 (t0 m9 : Nat) (post : Int32 → qs_S → Prop) (S : qs_S) : Prop := post (0 : Int32) S
def wp_X6_canComeOut_b101 (t0 m9 : Nat) (post : Int32 → qs_S → Prop) (K2 : qs_S → Nat → Nat → Int32 → Int32 → Prop) (S : qs_S) (a0 : Nat) (a1 : Nat) (x2 : Int32) (x3 : Int32) : Prop := ∀ v1 : Int32, v1 = x3 + 1 → K2 S a0 a1 x2 v1
def wp_X6_canComeOut_b70 (t0 m9 : Nat) (post : Int32 → qs_S → Prop) (K2 : qs_S → Nat → Nat → Int32 → Int32 → Prop) (S : qs_S) (a0 : Nat) (a1 : Nat) (x2 : Int32) (x3 : Int32) (a4 : Nat) : Prop := (a4 ∈ qs_L S ∧ qs_K S a4 = 1) ∧ (∀ v4 : Int32, v4 = qs_I S 4 a4 → (a1 ∈ qs_L S ∧ qs_K S a1 = 1) ∧ (∀ v7 : Int32, v7 = qs_I S 4 a1 → (v7 ≤ v4 → (wp_X6_canComeOut_b101 t0 m9 post K2 S a0 a1 x2 x3)) ∧ (¬ v7 ≤ v4 → (wp_X0_isBooked t0 m9 (fun (v12 : Int32) (S11 : qs_S) => (v12 = 0 → (wp_X6_canComeOut_b101 t0 m9 post K2 S11 a0 a1 x2 x3)) ∧ (¬ v12 = 0 → ((a4 ∈ qs_L S11 ∧ qs_K S11 a4 = 1) ∧ (∀ v16 : Int32, v16 = qs_I S11 7 a4 → (x2 ≤ v16 → (wp_X6_canComeOut_b101 t0 m9 post K2 S11 a0 a1 x2 x3)) ∧ (¬ x2 ≤ v16 → (post (0 : Int32) S11)))))) S a4))))
def wp_X6_canComeOut_c2 (t0 m9 : Nat) (post : Int32 → qs_S → Prop) (K2 : qs_S → Nat → Nat → Int32 → Int32 → Prop) (S : qs_S) (a0 : Nat) (a1 : Nat) (x2 : Int32) (x3 : Int32) : Prop := (a0 ∈ qs_L S ∧ qs_K S a0 = 6) ∧ (∃ q20 : Nat, qs_R S 1 a0 = some q20 ∧ ((q20 ∈ qs_L S ∧ qs_K S q20 = 0) ∧ (wp_Jx4a65c_size_8abf5 t0 m9 (fun (v26 : Int32) (S25 : qs_S) => (v26 ≤ x3 → (post (1 : Int32) S25)) ∧ (¬ v26 ≤ x3 → ((a0 ∈ qs_L S25 ∧ qs_K S25 a0 = 6) ∧ (∃ q30 : Nat, qs_R S25 1 a0 = some q30 ∧ ((q30 ∈ qs_L S25 ∧ qs_K S25 q30 = 0) ∧ (wp_Jx4a65c_get_915e3 t0 m9 (fun (o36 : Option Nat) (S35 : qs_S) => ∃ q37 : Nat, o36 = some q37 ∧ ((q37 ∈ qs_L S35 ∧ qs_K S35 q37 = 1) ∧ ((a1 ∈ qs_L S35 ∧ qs_K S35 a1 = 1) ∧ (∀ v42 : Int32, v42 = qs_I S35 3 a1 → wp_X0_isAt t0 m9 (fun (v46 : Int32) (S45 : qs_S) => (v46 = 0 → (wp_X6_canComeOut_b101 t0 m9 post K2 S45 a0 a1 x2 x3)) ∧ (¬ v46 = 0 → ((q37 ∈ qs_L S45 ∧ qs_K S45 q37 = 1) ∧ (∀ v50 : Int32, v50 = qs_I S45 4 q37 → (a1 ∈ qs_L S45 ∧ qs_K S45 a1 = 1) ∧ (∀ v53 : Int32, v53 = qs_I S45 4 a1 → (v50 ≤ v53 → (wp_X6_canComeOut_b70 t0 m9 post K2 S45 a0 a1 x2 x3 q37)) ∧ (¬ v50 ≤ v53 → (wp_X0_isBooked t0 m9 (fun (v58 : Int32) (S57 : qs_S) => (v58 = 0 → (wp_X6_canComeOut_b68 t0 m9 post S57)) ∧ (¬ v58 = 0 → ((q37 ∈ qs_L S57 ∧ qs_K S57 q37 = 1) ∧ (∀ v62 : Int32, v62 = qs_I S57 7 q37 → (v62 ≤ x2 → (wp_X6_canComeOut_b70 t0 m9 post K2 S57 a0 a1 x2 x3 q37)) ∧ (¬ v62 ≤ x2 → (wp_X6_canComeOut_b68 t0 m9 post S57)))))) S45 q37))))))) S35 q37 (3 : Int32) v42)))) S25 q30 x3)))))) S q20)))
def wp_X6_canComeOut_b2 (t0 m9 : Nat) (post : Int32 → qs_S → Prop) : Nat → qs_S → Nat → Nat → Int32 → Int32 → Prop
  | 0 => fun _ _ _ _ _ => False
  | n9 + 1 => wp_X6_canComeOut_c2 t0 m9 post (wp_X6_canComeOut_b2 t0 m9 post n9)
def wp_X6_canComeOut (t0 m9 : Nat) (post : Int32 → qs_S → Prop) (SA : qs_S) (a0z : Nat) (a1z : Nat) (x2z : Int32) : Prop := ∃ n64 : Nat, wp_X6_canComeOut_b2 t0 m9 post n64 SA a0z a1z x2z (0 : Int32)
set_option maxHeartbeats 4000000 in
set_option maxRecDepth 100000 in
theorem c_X6_canComeOut (l : Launch) (g : qs_G) (sz : Nat) (SA : qs_S) (a0z : Nat) (a1z : Nat) (x2z : Int32) {post : Int32 → qs_S → Prop} (h : wp_X6_canComeOut g.2.2.2.2.2.2.1 g.2.2.2.2.2.2.2 post SA a0z a1z x2z) : Met l yX6_canComeOut wsX6_canComeOut ({ frames := 3, cells := 0, slots := 0, locals := 64 } : Room) (qs_Pc g sz SA [.ref a0z, .ref a1z, .int x2z]) (qs_Qi g (qs_F g SA sz) post) 0 0 (qs_F g SA sz) := by
  refine Met.ofW (cc := cX6_canComeOut) (maxL := 5) (ret := (some .boolean)) (by decide +kernel) rfl ?_
  intro p e s m args below meth c s₁ B hml hv
  obtain ⟨rfl, hsz, hG⟩ := qs_Gd.start hv
  subst hsz
  have hx := B.exec
  have hb := B.bytes
  have hr := B.returns
  have hts := atoms_spec (ws := wsX6_canComeOut) B.pre
  have hown : s.vm.findClass RX6 = some m.cls := findClass_of_methodNamed B.named
  have hlk := B.notSynchronized
  have in0 : ∀ w ∈ u_ws RJx4a65c TJx4a65c 3, w ∈ wsX6_canComeOut := fun w h => List.mem_cons_of_mem _ (List.mem_append_right _ (h))
  have in1 : ∀ w ∈ u_ws RX0 TX0 8, w ∈ wsX6_canComeOut := fun w h => List.mem_cons_of_mem _ (List.mem_append_left _ (List.mem_append_right _ (h)))
  have in6 : ∀ w ∈ u_ws RX6 TX6 8, w ∈ wsX6_canComeOut := fun w h => List.mem_cons_of_mem _ (List.mem_append_left _ (List.mem_append_left _ (List.mem_append_right _ (h))))
  have b68 : ∀ (S : qs_S) (H : Heap) (locs : List Loc) (ls : Array Slot), wp_X6_canComeOut_b68 g.2.2.2.2.2.2.1 g.2.2.2.2.2.2.2 post S → qs_Gd g (qs_F g SA s.heap.size) s S H locs → lv_has ls 5 [] → W p l e (headSpec wsX6_canComeOut ({ frames := 3, cells := 0, slots := 0, locals := 64 } : Room)).room s m (([.ref a0z, .ref a1z, .int x2z] : List Value)).toArray below meth c H locs 0 0 (MQ below (qs_Qi g (qs_F g SA s.heap.size) post) (([.ref a0z, .ref a1z, .int x2z] : List Value)).toArray s 0 0 (qs_F g SA s.heap.size)) (F0 m 68 ls []) := by
    intro S H locs ls h hG hl
    unfold wp_X6_canComeOut_b68 at h
    refine lv_iconst (v := (0 : Int32)) hx hb dX6_canComeOut_68 (by decide +kernel) ?_
    exact qe_z hx hb hr hlk (Or.inl rfl) hG h (Nat.le_refl _) (Nat.le_refl _) dX6_canComeOut_69
  have b101 : ∀ (K2 : qs_S → Nat → Nat → Int32 → Int32 → Prop), (∀ (S : qs_S) (a0 : Nat) (a1 : Nat) (x2 : Int32) (x3 : Int32) (H : Heap) (locs : List Loc) (ls : Array Slot), K2 S a0 a1 x2 x3 → qs_Gd g (qs_F g SA s.heap.size) s S H locs → lv_has ls 5 [(0, .ref a0), (1, .ref a1), (2, .int x2), (3, .int x3)] → W p l e (headSpec wsX6_canComeOut ({ frames := 3, cells := 0, slots := 0, locals := 64 } : Room)).room s m (([.ref a0z, .ref a1z, .int x2z] : List Value)).toArray below meth c H locs 0 0 (MQ below (qs_Qi g (qs_F g SA s.heap.size) post) (([.ref a0z, .ref a1z, .int x2z] : List Value)).toArray s 0 0 (qs_F g SA s.heap.size)) (F0 m 2 ls [])) → ∀ (S : qs_S) (a0 : Nat) (a1 : Nat) (x2 : Int32) (x3 : Int32) (H : Heap) (locs : List Loc) (ls : Array Slot), wp_X6_canComeOut_b101 g.2.2.2.2.2.2.1 g.2.2.2.2.2.2.2 post K2 S a0 a1 x2 x3 → qs_Gd g (qs_F g SA s.heap.size) s S H locs → lv_has ls 5 [(0, .ref a0), (1, .ref a1), (2, .int x2), (3, .int x3)] → W p l e (headSpec wsX6_canComeOut ({ frames := 3, cells := 0, slots := 0, locals := 64 } : Room)).room s m (([.ref a0z, .ref a1z, .int x2z] : List Value)).toArray below meth c H locs 0 0 (MQ below (qs_Qi g (qs_F g SA s.heap.size) post) (([.ref a0z, .ref a1z, .int x2z] : List Value)).toArray s 0 0 (qs_F g SA s.heap.size)) (F0 m 101 ls []) := by
    intro K2 hK2 S a0 a1 x2 x3 H locs ls h hG hl
    unfold wp_X6_canComeOut_b101 at h
    obtain ⟨v1, ev1⟩ : ∃ y : Int32, y = x3 + 1 := ⟨_, rfl⟩
    have h := h v1 ev1
    refine lv_iinc (v := v1) (lv' := [(3, .int v1), (0, .ref a0), (1, .ref a1), (2, .int x2)]) hx hb dX6_canComeOut_101 hl (k := 3) rfl (by rw [ev1]; rfl) (by decide) rfl (fun ls hl => ?_)
    refine lv_goto (tgt := 2) hx hb dX6_canComeOut_104 (by decide) ?_
    exact hK2 S a0 a1 x2 v1 _ _ ls h hG (lv_sub hl [1, 2, 3, 0] rfl)
  have b70 : ∀ (K2 : qs_S → Nat → Nat → Int32 → Int32 → Prop), (∀ (S : qs_S) (a0 : Nat) (a1 : Nat) (x2 : Int32) (x3 : Int32) (H : Heap) (locs : List Loc) (ls : Array Slot), K2 S a0 a1 x2 x3 → qs_Gd g (qs_F g SA s.heap.size) s S H locs → lv_has ls 5 [(0, .ref a0), (1, .ref a1), (2, .int x2), (3, .int x3)] → W p l e (headSpec wsX6_canComeOut ({ frames := 3, cells := 0, slots := 0, locals := 64 } : Room)).room s m (([.ref a0z, .ref a1z, .int x2z] : List Value)).toArray below meth c H locs 0 0 (MQ below (qs_Qi g (qs_F g SA s.heap.size) post) (([.ref a0z, .ref a1z, .int x2z] : List Value)).toArray s 0 0 (qs_F g SA s.heap.size)) (F0 m 2 ls [])) → ∀ (S : qs_S) (a0 : Nat) (a1 : Nat) (x2 : Int32) (x3 : Int32) (a4 : Nat) (H : Heap) (locs : List Loc) (ls : Array Slot), wp_X6_canComeOut_b70 g.2.2.2.2.2.2.1 g.2.2.2.2.2.2.2 post K2 S a0 a1 x2 x3 a4 → qs_Gd g (qs_F g SA s.heap.size) s S H locs → lv_has ls 5 [(0, .ref a0), (1, .ref a1), (2, .int x2), (3, .int x3), (4, .ref a4)] → W p l e (headSpec wsX6_canComeOut ({ frames := 3, cells := 0, slots := 0, locals := 64 } : Room)).room s m (([.ref a0z, .ref a1z, .int x2z] : List Value)).toArray below meth c H locs 0 0 (MQ below (qs_Qi g (qs_F g SA s.heap.size) post) (([.ref a0z, .ref a1z, .int x2z] : List Value)).toArray s 0 0 (qs_F g SA s.heap.size)) (F0 m 70 ls []) := by
    intro K2 hK2 S a0 a1 x2 x3 a4 H locs ls h hG hl
    unfold wp_X6_canComeOut_b70 at h
    refine lv_aload hx hb dX6_canComeOut_70 (lv_at hl 4 rfl) ?_
    obtain ⟨⟨hL2, fK3⟩, h⟩ := h
    refine qr_get (C := RX0) (T := TX0) (N := 8) (ci := 1) hx hb hts in1 hown hG hL2 fK3 (by decide) rfl 4 (by decide) rfl (hts (.fieldLink RX6 281 "QuayMesh$Box" "level" "I") (List.mem_of_getElem? (i := 4) rfl)) (fun _ h9 => h9) (v := .int (qs_I S 4 a4)) rfl dX6_canComeOut_72 ?_
    refine lv_topi (fun v4 ev4 => ?_)
    have h := h v4 ev4
    refine lv_aload_n hx hb dX6_canComeOut_75 rfl (lv_at hl 1 rfl) ?_
    obtain ⟨⟨hL5, fK6⟩, h⟩ := h
    refine qr_get (C := RX0) (T := TX0) (N := 8) (ci := 1) hx hb hts in1 hown hG hL5 fK6 (by decide) rfl 4 (by decide) rfl (hts (.fieldLink RX6 281 "QuayMesh$Box" "level" "I") (List.mem_of_getElem? (i := 4) rfl)) (fun _ h9 => h9) (v := .int (qs_I S 4 a1)) rfl dX6_canComeOut_76 ?_
    refine lv_topi (fun v7 ev7 => ?_)
    have h := h v7 ev7
    refine lv_icmp_ge (tgt := 101) hx hb dX6_canComeOut_79 (by decide) (fun c8 => ?_) (fun c8 => ?_)
    · have h := h.1 c8
      exact b101 K2 hK2 S a0 a1 x2 x3 _ _ ls h hG (lv_sub hl [0, 1, 2, 3] rfl)
    · have h := h.2 c8
      refine lv_aload hx hb dX6_canComeOut_82 (lv_at hl 4 rfl) ?_
      refine qc_i hG (va_runV (As := []) (rest := []) ⟨hx, hb, hml, hown, hts⟩ (c_X0_isBooked l g _ S a4 h) (cwV 0 hts gX6_canComeOut_X0_isBooked rfl rfl rfl (by decide +kernel) ⟨(Nat.le_of_ble_eq_true rfl), (Nat.le_of_ble_eq_true rfl)⟩) ⟨qs_Pc.blind _ _ _ _, hG.recv hL2 fK3 (by decide) rfl, hG.pre _⟩ rfl rfl hl.1 rfl (lv_room (Nat.le_of_ble_eq_true rfl)) dX6_canComeOut_84 ⟨Nat.zero_le _, Nat.zero_le _⟩) (fun v12 S11 H locs h hG => ?_)
      refine lv_if_eq (tgt := 101) hx hb dX6_canComeOut_87 (by decide) (fun c13 => ?_) (fun c13 => ?_)
      · have h := h.1 c13
        exact b101 K2 hK2 S11 a0 a1 x2 x3 _ _ ls h hG (lv_sub hl [0, 1, 2, 3] rfl)
      · have h := h.2 c13
        refine lv_aload hx hb dX6_canComeOut_90 (lv_at hl 4 rfl) ?_
        obtain ⟨⟨hL14, fK15⟩, h⟩ := h
        refine qr_get (C := RX0) (T := TX0) (N := 8) (ci := 1) hx hb hts in1 hown hG hL14 fK15 (by decide) rfl 7 (by decide) rfl (hts (.fieldLink RX6 323 "QuayMesh$Box" "bookedHour" "I") (List.mem_of_getElem? (i := 5) rfl)) (fun _ h9 => h9) (v := .int (qs_I S11 7 a4)) rfl dX6_canComeOut_92 ?_
        refine lv_topi (fun v16 ev16 => ?_)
        have h := h v16 ev16
        refine lv_iload_n hx hb dX6_canComeOut_95 rfl (lv_at hl 2 rfl) ?_
        refine lv_icmp_ge (tgt := 101) hx hb dX6_canComeOut_96 (by decide) (fun c17 => ?_) (fun c17 => ?_)
        · have h := h.1 c17
          exact b101 K2 hK2 S11 a0 a1 x2 x3 _ _ ls h hG (lv_sub hl [0, 1, 2, 3] rfl)
        · have h := h.2 c17
          refine lv_iconst (v := (0 : Int32)) hx hb dX6_canComeOut_99 (by decide +kernel) ?_
          exact qe_z hx hb hr hlk (Or.inl rfl) hG h (Nat.le_refl _) (Nat.le_refl _) dX6_canComeOut_100
  have c2 : ∀ (K2 : qs_S → Nat → Nat → Int32 → Int32 → Prop), (∀ (S : qs_S) (a0 : Nat) (a1 : Nat) (x2 : Int32) (x3 : Int32) (H : Heap) (locs : List Loc) (ls : Array Slot), K2 S a0 a1 x2 x3 → qs_Gd g (qs_F g SA s.heap.size) s S H locs → lv_has ls 5 [(0, .ref a0), (1, .ref a1), (2, .int x2), (3, .int x3)] → W p l e (headSpec wsX6_canComeOut ({ frames := 3, cells := 0, slots := 0, locals := 64 } : Room)).room s m (([.ref a0z, .ref a1z, .int x2z] : List Value)).toArray below meth c H locs 0 0 (MQ below (qs_Qi g (qs_F g SA s.heap.size) post) (([.ref a0z, .ref a1z, .int x2z] : List Value)).toArray s 0 0 (qs_F g SA s.heap.size)) (F0 m 2 ls [])) → ∀ (S : qs_S) (a0 : Nat) (a1 : Nat) (x2 : Int32) (x3 : Int32) (H : Heap) (locs : List Loc) (ls : Array Slot), wp_X6_canComeOut_c2 g.2.2.2.2.2.2.1 g.2.2.2.2.2.2.2 post K2 S a0 a1 x2 x3 → qs_Gd g (qs_F g SA s.heap.size) s S H locs → lv_has ls 5 [(0, .ref a0), (1, .ref a1), (2, .int x2), (3, .int x3)] → W p l e (headSpec wsX6_canComeOut ({ frames := 3, cells := 0, slots := 0, locals := 64 } : Room)).room s m (([.ref a0z, .ref a1z, .int x2z] : List Value)).toArray below meth c H locs 0 0 (MQ below (qs_Qi g (qs_F g SA s.heap.size) post) (([.ref a0z, .ref a1z, .int x2z] : List Value)).toArray s 0 0 (qs_F g SA s.heap.size)) (F0 m 2 ls []) := by
    intro K2 hK2 S a0 a1 x2 x3 H locs ls h hG hl
    unfold wp_X6_canComeOut_c2 at h
    refine lv_iload_n hx hb dX6_canComeOut_2 rfl (lv_at hl 3 rfl) ?_
    refine lv_aload_n hx hb dX6_canComeOut_3 rfl (lv_at hl 0 rfl) ?_
    obtain ⟨⟨hL18, fK19⟩, h⟩ := h
    obtain ⟨q20, eq20, h⟩ := h
    refine qr_get (C := RX6) (T := TX6) (N := 8) (ci := 6) hx hb hts in6 hown hG hL18 fK19 (by decide) rfl 1 (by decide) rfl (hts (.fieldLink RX6 16 "QuayMesh" "allBoxes" "Ljava/util/ArrayList;") (List.mem_of_getElem? (i := 1) rfl)) (fun _ h9 => h9) (v := .ref q20) (qs_rf eq20) dX6_canComeOut_4 ?_
    obtain ⟨⟨hL23, fK24⟩, h⟩ := h
    refine qc_i hG (va_runV (As := []) (rest := [.int x3]) ⟨hx, hb, hml, hown, hts⟩ (c_Jx4a65c_size_8abf5 l g _ S q20 h) (cwV 0 hts gX6_canComeOut_Jx4a65c_size_8abf5 rfl rfl rfl (by decide +kernel) ⟨(Nat.le_of_ble_eq_true rfl), (Nat.le_of_ble_eq_true rfl)⟩) ⟨qs_Pc.blind _ _ _ _, hG.recv hL23 fK24 (by decide) rfl, hG.pre _⟩ rfl rfl hl.1 rfl (lv_room (Nat.le_of_ble_eq_true rfl)) dX6_canComeOut_7 ⟨Nat.zero_le _, Nat.zero_le _⟩) (fun v26 S25 H locs h hG => ?_)
    refine lv_icmp_ge (tgt := 107) hx hb dX6_canComeOut_10 (by decide) (fun c27 => ?_) (fun c27 => ?_)
    · have h := h.1 c27
      refine lv_iconst (v := (1 : Int32)) hx hb dX6_canComeOut_107 (by decide +kernel) ?_
      exact qe_z hx hb hr hlk (Or.inr rfl) hG h (Nat.le_refl _) (Nat.le_refl _) dX6_canComeOut_108
    · have h := h.2 c27
      refine lv_aload_n hx hb dX6_canComeOut_13 rfl (lv_at hl 0 rfl) ?_
      obtain ⟨⟨hL28, fK29⟩, h⟩ := h
      obtain ⟨q30, eq30, h⟩ := h
      refine qr_get (C := RX6) (T := TX6) (N := 8) (ci := 6) hx hb hts in6 hown hG hL28 fK29 (by decide) rfl 1 (by decide) rfl (hts (.fieldLink RX6 16 "QuayMesh" "allBoxes" "Ljava/util/ArrayList;") (List.mem_of_getElem? (i := 1) rfl)) (fun _ h9 => h9) (v := .ref q30) (qs_rf eq30) dX6_canComeOut_14 ?_
      refine lv_iload_n hx hb dX6_canComeOut_17 rfl (lv_at hl 3 rfl) ?_
      obtain ⟨⟨hL33, fK34⟩, h⟩ := h
      refine qc_q hG (va_runV (As := [.int x3]) (rest := []) ⟨hx, hb, hml, hown, hts⟩ (c_Jx4a65c_get_915e3 l g _ S25 q30 x3 h) (cwV 1 hts gX6_canComeOut_Jx4a65c_get_915e3 rfl rfl rfl (by decide +kernel) ⟨(Nat.le_of_ble_eq_true rfl), (Nat.le_of_ble_eq_true rfl)⟩) ⟨qs_Pc.blind _ _ _ _, hG.recv hL33 fK34 (by decide) rfl, hG.pre _⟩ rfl rfl hl.1 rfl (lv_room (Nat.le_of_ble_eq_true rfl)) dX6_canComeOut_18 ⟨Nat.zero_le _, Nat.zero_le _⟩) (fun o36 S35 H locs h hG => ?_)
      obtain ⟨q37, rfl, h⟩ := h
      obtain ⟨⟨hL38, fK39⟩, h⟩ := h
      refine qr_cast (N := 8) hx hb hG hL38 fK39 (by decide) rfl hown (hts (.classLink RX6 92 "QuayMesh$Box") (List.mem_of_getElem? (i := 2) rfl)) dX6_canComeOut_21 ?_
      refine lv_astore (lv' := [(4, .ref q37), (0, .ref a0), (1, .ref a1), (2, .int x2), (3, .int x3)]) hx hb dX6_canComeOut_24 hl (by decide) rfl (fun ls hl => ?_)
      refine lv_aload hx hb dX6_canComeOut_26 (lv_at hl 0 rfl) ?_
      refine lv_iconst (v := (3 : Int32)) hx hb dX6_canComeOut_28 (by decide +kernel) ?_
      refine lv_aload_n hx hb dX6_canComeOut_29 rfl (lv_at hl 2 rfl) ?_
      obtain ⟨⟨hL40, fK41⟩, h⟩ := h
      refine qr_get (C := RX0) (T := TX0) (N := 8) (ci := 1) hx hb hts in1 hown hG hL40 fK41 (by decide) rfl 3 (by decide) rfl (hts (.fieldLink RX6 284 "QuayMesh$Box" "spot" "I") (List.mem_of_getElem? (i := 3) rfl)) (fun _ h9 => h9) (v := .int (qs_I S35 3 a1)) rfl dX6_canComeOut_30 ?_
      refine lv_topi (fun v42 ev42 => ?_)
      have h := h v42 ev42
      refine qc_i hG (va_runV (As := [.int (3 : Int32), .int v42]) (rest := []) ⟨hx, hb, hml, hown, hts⟩ (c_X0_isAt l g _ S35 q37 (3 : Int32) v42 h) (cwV 2 hts gX6_canComeOut_X0_isAt rfl rfl rfl (by decide +kernel) ⟨(Nat.le_of_ble_eq_true rfl), (Nat.le_of_ble_eq_true rfl)⟩) ⟨qs_Pc.blind _ _ _ _, hG.recv hL38 fK39 (by decide) rfl, hG.pre _⟩ rfl rfl hl.1 rfl (lv_room (Nat.le_of_ble_eq_true rfl)) dX6_canComeOut_33 ⟨Nat.zero_le _, Nat.zero_le _⟩) (fun v46 S45 H locs h hG => ?_)
      refine lv_if_eq (tgt := 101) hx hb dX6_canComeOut_36 (by decide) (fun c47 => ?_) (fun c47 => ?_)
      · have h := h.1 c47
        exact b101 K2 hK2 S45 a0 a1 x2 x3 _ _ ls h hG (lv_sub hl [1, 2, 3, 4] rfl)
      · have h := h.2 c47
        refine lv_aload hx hb dX6_canComeOut_39 (lv_at hl 0 rfl) ?_
        obtain ⟨⟨hL48, fK49⟩, h⟩ := h
        refine qr_get (C := RX0) (T := TX0) (N := 8) (ci := 1) hx hb hts in1 hown hG hL48 fK49 (by decide) rfl 4 (by decide) rfl (hts (.fieldLink RX6 281 "QuayMesh$Box" "level" "I") (List.mem_of_getElem? (i := 4) rfl)) (fun _ h9 => h9) (v := .int (qs_I S45 4 q37)) rfl dX6_canComeOut_41 ?_
        refine lv_topi (fun v50 ev50 => ?_)
        have h := h v50 ev50
        refine lv_aload_n hx hb dX6_canComeOut_44 rfl (lv_at hl 2 rfl) ?_
        obtain ⟨⟨hL51, fK52⟩, h⟩ := h
        refine qr_get (C := RX0) (T := TX0) (N := 8) (ci := 1) hx hb hts in1 hown hG hL51 fK52 (by decide) rfl 4 (by decide) rfl (hts (.fieldLink RX6 281 "QuayMesh$Box" "level" "I") (List.mem_of_getElem? (i := 4) rfl)) (fun _ h9 => h9) (v := .int (qs_I S45 4 a1)) rfl dX6_canComeOut_45 ?_
        refine lv_topi (fun v53 ev53 => ?_)
        have h := h v53 ev53
        refine lv_icmp_le (tgt := 70) hx hb dX6_canComeOut_48 (by decide) (fun c54 => ?_) (fun c54 => ?_)
        · have h := h.1 c54
          exact b70 K2 hK2 S45 a0 a1 x2 x3 q37 _ _ ls h hG (lv_sub hl [1, 2, 3, 4, 0] rfl)
        · have h := h.2 c54
          refine lv_aload hx hb dX6_canComeOut_51 (lv_at hl 0 rfl) ?_
          refine qc_i hG (va_runV (As := []) (rest := []) ⟨hx, hb, hml, hown, hts⟩ (c_X0_isBooked l g _ S45 q37 h) (cwV 0 hts gX6_canComeOut_X0_isBooked rfl rfl rfl (by decide +kernel) ⟨(Nat.le_of_ble_eq_true rfl), (Nat.le_of_ble_eq_true rfl)⟩) ⟨qs_Pc.blind _ _ _ _, hG.recv hL48 fK49 (by decide) rfl, hG.pre _⟩ rfl rfl hl.1 rfl (lv_room (Nat.le_of_ble_eq_true rfl)) dX6_canComeOut_53 ⟨Nat.zero_le _, Nat.zero_le _⟩) (fun v58 S57 H locs h hG => ?_)
          refine lv_if_eq (tgt := 68) hx hb dX6_canComeOut_56 (by decide) (fun c59 => ?_) (fun c59 => ?_)
          · have h := h.1 c59
            exact b68 S57 _ _ ls h hG (lv_sub hl [] rfl)
          · have h := h.2 c59
            refine lv_aload hx hb dX6_canComeOut_59 (lv_at hl 0 rfl) ?_
            obtain ⟨⟨hL60, fK61⟩, h⟩ := h
            refine qr_get (C := RX0) (T := TX0) (N := 8) (ci := 1) hx hb hts in1 hown hG hL60 fK61 (by decide) rfl 7 (by decide) rfl (hts (.fieldLink RX6 323 "QuayMesh$Box" "bookedHour" "I") (List.mem_of_getElem? (i := 5) rfl)) (fun _ h9 => h9) (v := .int (qs_I S57 7 q37)) rfl dX6_canComeOut_61 ?_
            refine lv_topi (fun v62 ev62 => ?_)
            have h := h v62 ev62
            refine lv_iload_n hx hb dX6_canComeOut_64 rfl (lv_at hl 3 rfl) ?_
            refine lv_icmp_le (tgt := 70) hx hb dX6_canComeOut_65 (by decide) (fun c63 => ?_) (fun c63 => ?_)
            · have h := h.1 c63
              exact b70 K2 hK2 S57 a0 a1 x2 x3 q37 _ _ ls h hG (lv_sub hl [1, 2, 3, 4, 0] rfl)
            · have h := h.2 c63
              exact b68 S57 _ _ ls h hG (lv_sub hl [] rfl)
  have b2 : ∀ n9 : Nat, ∀ (S : qs_S) (a0 : Nat) (a1 : Nat) (x2 : Int32) (x3 : Int32) (H : Heap) (locs : List Loc) (ls : Array Slot), wp_X6_canComeOut_b2 g.2.2.2.2.2.2.1 g.2.2.2.2.2.2.2 post n9 S a0 a1 x2 x3 → qs_Gd g (qs_F g SA s.heap.size) s S H locs → lv_has ls 5 [(0, .ref a0), (1, .ref a1), (2, .int x2), (3, .int x3)] → W p l e (headSpec wsX6_canComeOut ({ frames := 3, cells := 0, slots := 0, locals := 64 } : Room)).room s m (([.ref a0z, .ref a1z, .int x2z] : List Value)).toArray below meth c H locs 0 0 (MQ below (qs_Qi g (qs_F g SA s.heap.size) post) (([.ref a0z, .ref a1z, .int x2z] : List Value)).toArray s 0 0 (qs_F g SA s.heap.size)) (F0 m 2 ls []) := by
    intro n9
    induction n9 with
    | zero =>
      intro S a0 a1 x2 x3 H locs ls h hG hl
      exact False.elim h
    | succ n9 ih => exact c2 _ ih
  have hl := lv_entry ([.ref a0z, .ref a1z, .int x2z]) (n := 5) (Nat.le_of_ble_eq_true rfl)
  rw [lg_entry_eq]
  generalize (lg_sl ([.ref a0z, .ref a1z, .int x2z]) ++ List.replicate (5 - (lg_sl ([.ref a0z, .ref a1z, .int x2z])).length) Slot.unset).toArray = ls at hl ⊢
  have hl : lv_has ls 5 [(0, .ref a0z), (1, .ref a1z), (2, .int x2z)] := hl
  unfold wp_X6_canComeOut at h
  refine lv_iconst (v := (0 : Int32)) hx hb dX6_canComeOut_0 (by decide +kernel) ?_
  refine lv_istore_n (lv' := [(3, .int (0 : Int32)), (0, .ref a0z), (1, .ref a1z), (2, .int x2z)]) hx hb dX6_canComeOut_1 rfl hl (by decide) rfl (fun ls hl => ?_)
  obtain ⟨n64, h⟩ := h
  exact b2 n64 SA a0z a1z x2z (0 : Int32) _ _ ls h hG (lv_sub hl [1, 2, 3, 0] rfl)
def wp_X6_lastLoggedMoveOf_b56 (t0 m9 : Nat) (post : Option Nat → qs_S → Prop) (K4 : qs_S → Nat → Nat → Option Nat → Int32 → Prop) (S : qs_S) (a0 : Nat) (a1 : Nat) (o2 : Option Nat) (x3 : Int32) : Prop := ∀ v1 : Int32, v1 = x3 + 1 → K4 S a0 a1 o2 v1
def wp_X6_lastLoggedMoveOf_b53 (t0 m9 : Nat) (post : Option Nat → qs_S → Prop) (K4 : qs_S → Nat → Nat → Option Nat → Int32 → Prop) (S : qs_S) (a0 : Nat) (a1 : Nat) (x3 : Int32) (a4 : Nat) : Prop := wp_X6_lastLoggedMoveOf_b56 t0 m9 post K4 S a0 a1 (some a4) x3
def wp_X6_lastLoggedMoveOf_c4 (t0 m9 : Nat) (post : Option Nat → qs_S → Prop) (K4 : qs_S → Nat → Nat → Option Nat → Int32 → Prop) (S : qs_S) (a0 : Nat) (a1 : Nat) (o2 : Option Nat) (x3 : Int32) : Prop := (a0 ∈ qs_L S ∧ qs_K S a0 = 6) ∧ (∃ q4 : Nat, qs_R S 3 a0 = some q4 ∧ ((q4 ∈ qs_L S ∧ qs_K S q4 = 0) ∧ (wp_Jx4a65c_size_8abf5 t0 m9 (fun (v10 : Int32) (S9 : qs_S) => (v10 ≤ x3 → ((o2 = none → (post none S9)) ∧ (∀ q12 : Nat, o2 = some q12 → (post (some q12) S9)))) ∧ (¬ v10 ≤ x3 → ((a0 ∈ qs_L S9 ∧ qs_K S9 a0 = 6) ∧ (∃ q15 : Nat, qs_R S9 3 a0 = some q15 ∧ ((q15 ∈ qs_L S9 ∧ qs_K S9 q15 = 0) ∧ (wp_Jx4a65c_get_915e3 t0 m9 (fun (o21 : Option Nat) (S20 : qs_S) => ∃ q22 : Nat, o21 = some q22 ∧ ((q22 ∈ qs_L S20 ∧ qs_K S20 q22 = 3) ∧ (∃ q25 : Nat, qs_R S20 2 q22 = some q25 ∧ ((¬ q25 = a1 → (wp_X6_lastLoggedMoveOf_b56 t0 m9 post K4 S20 a0 a1 o2 x3)) ∧ (q25 = a1 → ((o2 = none → (wp_X6_lastLoggedMoveOf_b53 t0 m9 post K4 S20 a0 a1 x3 q22)) ∧ (∀ q27 : Nat, o2 = some q27 → (∀ v28 : Int32, v28 = qs_I S20 5 q22 → (q27 ∈ qs_L S20 ∧ qs_K S20 q27 = 3) ∧ (∀ v31 : Int32, v31 = qs_I S20 5 q27 → (v28 ≤ v31 → (wp_X6_lastLoggedMoveOf_b56 t0 m9 post K4 S20 a0 a1 (some q27) x3)) ∧ (¬ v28 ≤ v31 → (wp_X6_lastLoggedMoveOf_b53 t0 m9 post K4 S20 a0 a1 x3 q22))))))))))) S9 q15 x3)))))) S q4)))
def wp_X6_lastLoggedMoveOf_b4 (t0 m9 : Nat) (post : Option Nat → qs_S → Prop) : Nat → qs_S → Nat → Nat → Option Nat → Int32 → Prop
  | 0 => fun _ _ _ _ _ => False
  | n9 + 1 => wp_X6_lastLoggedMoveOf_c4 t0 m9 post (wp_X6_lastLoggedMoveOf_b4 t0 m9 post n9)
def wp_X6_lastLoggedMoveOf (t0 m9 : Nat) (post : Option Nat → qs_S → Prop) (SA : qs_S) (a0z : Nat) (a1z : Nat) : Prop := ∃ n33 : Nat, wp_X6_lastLoggedMoveOf_b4 t0 m9 post n33 SA a0z a1z none (0 : Int32)
set_option maxHeartbeats 4000000 in
set_option maxRecDepth 100000 in
theorem c_X6_lastLoggedMoveOf (l : Launch) (g : qs_G) (sz : Nat) (SA : qs_S) (a0z : Nat) (a1z : Nat) {post : Option Nat → qs_S → Prop} (h : wp_X6_lastLoggedMoveOf g.2.2.2.2.2.2.1 g.2.2.2.2.2.2.2 post SA a0z a1z) : Met l yX6_lastLoggedMoveOf wsX6_lastLoggedMoveOf ({ frames := 3, cells := 0, slots := 0, locals := 64 } : Room) (qs_Pc g sz SA [.ref a0z, .ref a1z]) (qs_Qq g (qs_F g SA sz) post) 0 0 (qs_F g SA sz) := by
  refine Met.ofW (cc := cX6_lastLoggedMoveOf) (maxL := 5) (ret := (some (.object "QuayMesh$Message"))) (by decide +kernel) rfl ?_
  intro p e s m args below meth c s₁ B hml hv
  obtain ⟨rfl, hsz, hG⟩ := qs_Gd.start hv
  subst hsz
  have hx := B.exec
  have hb := B.bytes
  have hr := B.returns
  have hts := atoms_spec (ws := wsX6_lastLoggedMoveOf) B.pre
  have hown : s.vm.findClass RX6 = some m.cls := findClass_of_methodNamed B.named
  have hlk := B.notSynchronized
  have in0 : ∀ w ∈ u_ws RJx4a65c TJx4a65c 3, w ∈ wsX6_lastLoggedMoveOf := fun w h => List.mem_cons_of_mem _ (List.mem_append_right _ (h))
  have in3 : ∀ w ∈ u_ws RX2 TX2 7, w ∈ wsX6_lastLoggedMoveOf := fun w h => List.mem_cons_of_mem _ (List.mem_append_left _ (List.mem_append_right _ (h)))
  have in6 : ∀ w ∈ u_ws RX6 TX6 8, w ∈ wsX6_lastLoggedMoveOf := fun w h => List.mem_cons_of_mem _ (List.mem_append_left _ (List.mem_append_left _ (List.mem_append_right _ (h))))
  have b56 : ∀ (K4 : qs_S → Nat → Nat → Option Nat → Int32 → Prop), (∀ (S : qs_S) (a0 : Nat) (a1 : Nat) (o2 : Option Nat) (x3 : Int32) (H : Heap) (locs : List Loc) (ls : Array Slot), K4 S a0 a1 o2 x3 → qs_Gd g (qs_F g SA s.heap.size) s S H locs → lv_has ls 5 [(0, .ref a0), (1, .ref a1), (2, va_rf o2), (3, .int x3)] → W p l e (headSpec wsX6_lastLoggedMoveOf ({ frames := 3, cells := 0, slots := 0, locals := 64 } : Room)).room s m (([.ref a0z, .ref a1z] : List Value)).toArray below meth c H locs 0 0 (MQ below (qs_Qq g (qs_F g SA s.heap.size) post) (([.ref a0z, .ref a1z] : List Value)).toArray s 0 0 (qs_F g SA s.heap.size)) (F0 m 4 ls [])) → ∀ (S : qs_S) (a0 : Nat) (a1 : Nat) (o2 : Option Nat) (x3 : Int32) (H : Heap) (locs : List Loc) (ls : Array Slot), wp_X6_lastLoggedMoveOf_b56 g.2.2.2.2.2.2.1 g.2.2.2.2.2.2.2 post K4 S a0 a1 o2 x3 → qs_Gd g (qs_F g SA s.heap.size) s S H locs → lv_has ls 5 [(0, .ref a0), (1, .ref a1), (2, va_rf o2), (3, .int x3)] → W p l e (headSpec wsX6_lastLoggedMoveOf ({ frames := 3, cells := 0, slots := 0, locals := 64 } : Room)).room s m (([.ref a0z, .ref a1z] : List Value)).toArray below meth c H locs 0 0 (MQ below (qs_Qq g (qs_F g SA s.heap.size) post) (([.ref a0z, .ref a1z] : List Value)).toArray s 0 0 (qs_F g SA s.heap.size)) (F0 m 56 ls []) := by
    intro K4 hK4 S a0 a1 o2 x3 H locs ls h hG hl
    unfold wp_X6_lastLoggedMoveOf_b56 at h
    obtain ⟨v1, ev1⟩ : ∃ y : Int32, y = x3 + 1 := ⟨_, rfl⟩
    have h := h v1 ev1
    refine lv_iinc (v := v1) (lv' := [(3, .int v1), (0, .ref a0), (1, .ref a1), (2, va_rf o2)]) hx hb dX6_lastLoggedMoveOf_56 hl (k := 3) rfl (by rw [ev1]; rfl) (by decide) (by cases o2 <;> rfl) (fun ls hl => ?_)
    refine lv_goto (tgt := 4) hx hb dX6_lastLoggedMoveOf_59 (by decide) ?_
    exact hK4 S a0 a1 o2 v1 _ _ ls h hG (lv_sub hl [1, 2, 3, 0] rfl)
  have b53 : ∀ (K4 : qs_S → Nat → Nat → Option Nat → Int32 → Prop), (∀ (S : qs_S) (a0 : Nat) (a1 : Nat) (o2 : Option Nat) (x3 : Int32) (H : Heap) (locs : List Loc) (ls : Array Slot), K4 S a0 a1 o2 x3 → qs_Gd g (qs_F g SA s.heap.size) s S H locs → lv_has ls 5 [(0, .ref a0), (1, .ref a1), (2, va_rf o2), (3, .int x3)] → W p l e (headSpec wsX6_lastLoggedMoveOf ({ frames := 3, cells := 0, slots := 0, locals := 64 } : Room)).room s m (([.ref a0z, .ref a1z] : List Value)).toArray below meth c H locs 0 0 (MQ below (qs_Qq g (qs_F g SA s.heap.size) post) (([.ref a0z, .ref a1z] : List Value)).toArray s 0 0 (qs_F g SA s.heap.size)) (F0 m 4 ls [])) → ∀ (S : qs_S) (a0 : Nat) (a1 : Nat) (x3 : Int32) (a4 : Nat) (H : Heap) (locs : List Loc) (ls : Array Slot), wp_X6_lastLoggedMoveOf_b53 g.2.2.2.2.2.2.1 g.2.2.2.2.2.2.2 post K4 S a0 a1 x3 a4 → qs_Gd g (qs_F g SA s.heap.size) s S H locs → lv_has ls 5 [(0, .ref a0), (1, .ref a1), (3, .int x3), (4, .ref a4)] → W p l e (headSpec wsX6_lastLoggedMoveOf ({ frames := 3, cells := 0, slots := 0, locals := 64 } : Room)).room s m (([.ref a0z, .ref a1z] : List Value)).toArray below meth c H locs 0 0 (MQ below (qs_Qq g (qs_F g SA s.heap.size) post) (([.ref a0z, .ref a1z] : List Value)).toArray s 0 0 (qs_F g SA s.heap.size)) (F0 m 53 ls []) := by
    intro K4 hK4 S a0 a1 x3 a4 H locs ls h hG hl
    unfold wp_X6_lastLoggedMoveOf_b53 at h
    refine lv_aload hx hb dX6_lastLoggedMoveOf_53 (lv_at hl 3 rfl) ?_
    refine lv_astore_n (lv' := [(2, .ref a4), (0, .ref a0), (1, .ref a1), (3, .int x3), (4, .ref a4)]) hx hb dX6_lastLoggedMoveOf_55 rfl hl (by decide) rfl (fun ls hl => ?_)
    exact b56 K4 hK4 S a0 a1 (some a4) x3 _ _ ls h hG (lv_sub hl [1, 2, 0, 3] rfl)
  have c4 : ∀ (K4 : qs_S → Nat → Nat → Option Nat → Int32 → Prop), (∀ (S : qs_S) (a0 : Nat) (a1 : Nat) (o2 : Option Nat) (x3 : Int32) (H : Heap) (locs : List Loc) (ls : Array Slot), K4 S a0 a1 o2 x3 → qs_Gd g (qs_F g SA s.heap.size) s S H locs → lv_has ls 5 [(0, .ref a0), (1, .ref a1), (2, va_rf o2), (3, .int x3)] → W p l e (headSpec wsX6_lastLoggedMoveOf ({ frames := 3, cells := 0, slots := 0, locals := 64 } : Room)).room s m (([.ref a0z, .ref a1z] : List Value)).toArray below meth c H locs 0 0 (MQ below (qs_Qq g (qs_F g SA s.heap.size) post) (([.ref a0z, .ref a1z] : List Value)).toArray s 0 0 (qs_F g SA s.heap.size)) (F0 m 4 ls [])) → ∀ (S : qs_S) (a0 : Nat) (a1 : Nat) (o2 : Option Nat) (x3 : Int32) (H : Heap) (locs : List Loc) (ls : Array Slot), wp_X6_lastLoggedMoveOf_c4 g.2.2.2.2.2.2.1 g.2.2.2.2.2.2.2 post K4 S a0 a1 o2 x3 → qs_Gd g (qs_F g SA s.heap.size) s S H locs → lv_has ls 5 [(0, .ref a0), (1, .ref a1), (2, va_rf o2), (3, .int x3)] → W p l e (headSpec wsX6_lastLoggedMoveOf ({ frames := 3, cells := 0, slots := 0, locals := 64 } : Room)).room s m (([.ref a0z, .ref a1z] : List Value)).toArray below meth c H locs 0 0 (MQ below (qs_Qq g (qs_F g SA s.heap.size) post) (([.ref a0z, .ref a1z] : List Value)).toArray s 0 0 (qs_F g SA s.heap.size)) (F0 m 4 ls []) := by
    intro K4 hK4 S a0 a1 o2 x3 H locs ls h hG hl
    unfold wp_X6_lastLoggedMoveOf_c4 at h
    refine lv_iload_n hx hb dX6_lastLoggedMoveOf_4 rfl (lv_at hl 3 rfl) ?_
    refine lv_aload_n hx hb dX6_lastLoggedMoveOf_5 rfl (lv_at hl 0 rfl) ?_
    obtain ⟨⟨hL2, fK3⟩, h⟩ := h
    obtain ⟨q4, eq4, h⟩ := h
    refine qr_get (C := RX6) (T := TX6) (N := 8) (ci := 6) hx hb hts in6 hown hG hL2 fK3 (by decide) rfl 3 (by decide) rfl (hts (.fieldLink RX6 22 "QuayMesh" "log" "Ljava/util/ArrayList;") (List.mem_of_getElem? (i := 1) rfl)) (fun _ h9 => h9) (v := .ref q4) (qs_rf eq4) dX6_lastLoggedMoveOf_6 ?_
    obtain ⟨⟨hL7, fK8⟩, h⟩ := h
    refine qc_i hG (va_runV (As := []) (rest := [.int x3]) ⟨hx, hb, hml, hown, hts⟩ (c_Jx4a65c_size_8abf5 l g _ S q4 h) (cwV 0 hts gX6_lastLoggedMoveOf_Jx4a65c_size_8abf5 rfl rfl rfl (by decide +kernel) ⟨(Nat.le_of_ble_eq_true rfl), (Nat.le_of_ble_eq_true rfl)⟩) ⟨qs_Pc.blind _ _ _ _, hG.recv hL7 fK8 (by decide) rfl, hG.pre _⟩ rfl rfl hl.1 rfl (lv_room (Nat.le_of_ble_eq_true rfl)) dX6_lastLoggedMoveOf_9 ⟨Nat.zero_le _, Nat.zero_le _⟩) (fun v10 S9 H locs h hG => ?_)
    refine lv_icmp_ge (tgt := 62) hx hb dX6_lastLoggedMoveOf_12 (by decide) (fun c11 => ?_) (fun c11 => ?_)
    · have h := h.1 c11
      rcases o2 with _ | q12
      · have h := h.1 rfl
        have hl : lv_has ls 5 [(0, .ref a0), (1, .ref a1), (2, .null), (3, .int x3)] := hl
        refine lv_aload_nN hx hb dX6_lastLoggedMoveOf_62 rfl (lv_at hl 2 rfl) ?_
        exact qe_q (o := none) hx hb hr hlk rfl (Or.inl ⟨_, rfl⟩) hG h (Nat.le_refl _) (Nat.le_refl _) dX6_lastLoggedMoveOf_63
      · have h := h.2 q12 rfl
        have hl : lv_has ls 5 [(0, .ref a0), (1, .ref a1), (2, .ref q12), (3, .int x3)] := hl
        refine lv_aload_n hx hb dX6_lastLoggedMoveOf_62 rfl (lv_at hl 2 rfl) ?_
        exact qe_q (o := (some q12)) hx hb hr hlk rfl (Or.inl ⟨_, rfl⟩) hG h (Nat.le_refl _) (Nat.le_refl _) dX6_lastLoggedMoveOf_63
    · have h := h.2 c11
      refine lv_aload_n hx hb dX6_lastLoggedMoveOf_15 rfl (lv_at hl 0 rfl) ?_
      obtain ⟨⟨hL13, fK14⟩, h⟩ := h
      obtain ⟨q15, eq15, h⟩ := h
      refine qr_get (C := RX6) (T := TX6) (N := 8) (ci := 6) hx hb hts in6 hown hG hL13 fK14 (by decide) rfl 3 (by decide) rfl (hts (.fieldLink RX6 22 "QuayMesh" "log" "Ljava/util/ArrayList;") (List.mem_of_getElem? (i := 1) rfl)) (fun _ h9 => h9) (v := .ref q15) (qs_rf eq15) dX6_lastLoggedMoveOf_16 ?_
      refine lv_iload_n hx hb dX6_lastLoggedMoveOf_19 rfl (lv_at hl 3 rfl) ?_
      obtain ⟨⟨hL18, fK19⟩, h⟩ := h
      refine qc_q hG (va_runV (As := [.int x3]) (rest := []) ⟨hx, hb, hml, hown, hts⟩ (c_Jx4a65c_get_915e3 l g _ S9 q15 x3 h) (cwV 1 hts gX6_lastLoggedMoveOf_Jx4a65c_get_915e3 rfl rfl rfl (by decide +kernel) ⟨(Nat.le_of_ble_eq_true rfl), (Nat.le_of_ble_eq_true rfl)⟩) ⟨qs_Pc.blind _ _ _ _, hG.recv hL18 fK19 (by decide) rfl, hG.pre _⟩ rfl rfl hl.1 rfl (lv_room (Nat.le_of_ble_eq_true rfl)) dX6_lastLoggedMoveOf_20 ⟨Nat.zero_le _, Nat.zero_le _⟩) (fun o21 S20 H locs h hG => ?_)
      obtain ⟨q22, rfl, h⟩ := h
      obtain ⟨⟨hL23, fK24⟩, h⟩ := h
      refine qr_cast (N := 7) hx hb hG hL23 fK24 (by decide) rfl hown (hts (.classLink RX6 141 "QuayMesh$Message") (List.mem_of_getElem? (i := 2) rfl)) dX6_lastLoggedMoveOf_23 ?_
      refine lv_astore (lv' := [(4, .ref q22), (0, .ref a0), (1, .ref a1), (2, va_rf o2), (3, .int x3)]) hx hb dX6_lastLoggedMoveOf_26 hl (by decide) rfl (fun ls hl => ?_)
      refine lv_aload hx hb dX6_lastLoggedMoveOf_28 (lv_at hl 0 rfl) ?_
      obtain ⟨q25, eq25, h⟩ := h
      refine qr_get (C := RX2) (T := TX2) (N := 7) (ci := 3) hx hb hts in3 hown hG hL23 fK24 (by decide) rfl 2 (by decide) rfl (hts (.fieldLink RX6 185 "QuayMesh$Message" "box" "LQuayMesh$Box;") (List.mem_of_getElem? (i := 3) rfl)) (fun _ h9 => h9) (v := .ref q25) (qs_rf eq25) dX6_lastLoggedMoveOf_30 ?_
      refine lv_aload_n hx hb dX6_lastLoggedMoveOf_33 rfl (lv_at hl 2 rfl) ?_
      refine lv_acmp_ne (rx := (some q25)) (ry := (some a1)) (tgt := 56) hx hb dX6_lastLoggedMoveOf_34 (by decide) (fun c26 => ?_) (fun c26 => ?_)
      · have h := h.1 (fun z => c26 (congrArg some z))
        exact b56 K4 hK4 S20 a0 a1 o2 x3 _ _ ls h hG (lv_sub hl [1, 2, 3, 4] rfl)
      · have h := h.2 (Option.some.inj c26)
        rcases o2 with _ | q27
        · have h := h.1 rfl
          have hl : lv_has ls 5 [(4, .ref q22), (0, .ref a0), (1, .ref a1), (2, .null), (3, .int x3)] := hl
          refine lv_aload_nN hx hb dX6_lastLoggedMoveOf_37 rfl (lv_at hl 3 rfl) ?_
          refine lv_ifnullN (tgt := 53) hx hb dX6_lastLoggedMoveOf_38 (by decide) ?_
          exact b53 K4 hK4 S20 a0 a1 x3 q22 _ _ ls h hG (lv_sub hl [1, 2, 4, 0] rfl)
        · have h := h.2 q27 rfl
          have hl : lv_has ls 5 [(4, .ref q22), (0, .ref a0), (1, .ref a1), (2, .ref q27), (3, .int x3)] := hl
          refine lv_aload_n hx hb dX6_lastLoggedMoveOf_37 rfl (lv_at hl 3 rfl) ?_
          refine lv_ifnull hx hb dX6_lastLoggedMoveOf_38 ?_
          refine lv_aload hx hb dX6_lastLoggedMoveOf_41 (lv_at hl 0 rfl) ?_
          refine qr_get (C := RX2) (T := TX2) (N := 7) (ci := 3) hx hb hts in3 hown hG hL23 fK24 (by decide) rfl 5 (by decide) rfl (hts (.fieldLink RX6 293 "QuayMesh$Message" "orderMade" "I") (List.mem_of_getElem? (i := 4) rfl)) (fun _ h9 => h9) (v := .int (qs_I S20 5 q22)) rfl dX6_lastLoggedMoveOf_43 ?_
          refine lv_topi (fun v28 ev28 => ?_)
          have h := h v28 ev28
          refine lv_aload_n hx hb dX6_lastLoggedMoveOf_46 rfl (lv_at hl 3 rfl) ?_
          obtain ⟨⟨hL29, fK30⟩, h⟩ := h
          refine qr_get (C := RX2) (T := TX2) (N := 7) (ci := 3) hx hb hts in3 hown hG hL29 fK30 (by decide) rfl 5 (by decide) rfl (hts (.fieldLink RX6 293 "QuayMesh$Message" "orderMade" "I") (List.mem_of_getElem? (i := 4) rfl)) (fun _ h9 => h9) (v := .int (qs_I S20 5 q27)) rfl dX6_lastLoggedMoveOf_47 ?_
          refine lv_topi (fun v31 ev31 => ?_)
          have h := h v31 ev31
          refine lv_icmp_le (tgt := 56) hx hb dX6_lastLoggedMoveOf_50 (by decide) (fun c32 => ?_) (fun c32 => ?_)
          · have h := h.1 c32
            exact b56 K4 hK4 S20 a0 a1 (some q27) x3 _ _ ls h hG (lv_sub hl [1, 2, 3, 4] rfl)
          · have h := h.2 c32
            exact b53 K4 hK4 S20 a0 a1 x3 q22 _ _ ls h hG (lv_sub hl [1, 2, 4, 0] rfl)
  have b4 : ∀ n9 : Nat, ∀ (S : qs_S) (a0 : Nat) (a1 : Nat) (o2 : Option Nat) (x3 : Int32) (H : Heap) (locs : List Loc) (ls : Array Slot), wp_X6_lastLoggedMoveOf_b4 g.2.2.2.2.2.2.1 g.2.2.2.2.2.2.2 post n9 S a0 a1 o2 x3 → qs_Gd g (qs_F g SA s.heap.size) s S H locs → lv_has ls 5 [(0, .ref a0), (1, .ref a1), (2, va_rf o2), (3, .int x3)] → W p l e (headSpec wsX6_lastLoggedMoveOf ({ frames := 3, cells := 0, slots := 0, locals := 64 } : Room)).room s m (([.ref a0z, .ref a1z] : List Value)).toArray below meth c H locs 0 0 (MQ below (qs_Qq g (qs_F g SA s.heap.size) post) (([.ref a0z, .ref a1z] : List Value)).toArray s 0 0 (qs_F g SA s.heap.size)) (F0 m 4 ls []) := by
    intro n9
    induction n9 with
    | zero =>
      intro S a0 a1 o2 x3 H locs ls h hG hl
      exact False.elim h
    | succ n9 ih => exact c4 _ ih
  have hl := lv_entry ([.ref a0z, .ref a1z]) (n := 5) (Nat.le_of_ble_eq_true rfl)
  rw [lg_entry_eq]
  generalize (lg_sl ([.ref a0z, .ref a1z]) ++ List.replicate (5 - (lg_sl ([.ref a0z, .ref a1z])).length) Slot.unset).toArray = ls at hl ⊢
  have hl : lv_has ls 5 [(0, .ref a0z), (1, .ref a1z)] := hl
  unfold wp_X6_lastLoggedMoveOf at h
  refine lv_null hx hb dX6_lastLoggedMoveOf_0 ?_
  refine lv_astore_nN (lv' := [(2, .null), (0, .ref a0z), (1, .ref a1z)]) hx hb dX6_lastLoggedMoveOf_1 rfl hl (by decide) rfl (fun ls hl => ?_)
  refine lv_iconst (v := (0 : Int32)) hx hb dX6_lastLoggedMoveOf_2 (by decide +kernel) ?_
  refine lv_istore_n (lv' := [(3, .int (0 : Int32)), (2, .null), (0, .ref a0z), (1, .ref a1z)]) hx hb dX6_lastLoggedMoveOf_3 rfl hl (by decide) rfl (fun ls hl => ?_)
  obtain ⟨n33, h⟩ := h
  exact b4 n33 SA a0z a1z none (0 : Int32) _ _ ls h hG (lv_sub hl [2, 3, 1, 0] rfl)

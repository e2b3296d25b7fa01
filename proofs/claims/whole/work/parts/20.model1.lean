def wp_X7_init (t0 m9 : Nat) (mc ms : Nat) (post : qs_S → Prop) (SA : qs_S) (a0z : Nat) : Prop := ((0 + 1 ≤ mc ∧ 0 + 10 ≤ ms)) ∧ (∀ q1 : Nat, q1 ∉ qs_L SA → q1 ≠ t0 → (a0z ∈ qs_L (qs_nA SA q1 8 10) ∧ qs_K (qs_nA SA q1 8 10) a0z = 7) ∧ (((1 + 1 ≤ mc ∧ 10 + 10 ≤ ms)) ∧ (∀ q8 : Nat, q8 ∉ qs_L (qs_wR (qs_nA SA q1 8 10) 3 a0z (some q1)) → q8 ≠ t0 → ((2 + 1 ≤ mc ∧ 20 + 10 ≤ ms)) ∧ (∀ q15 : Nat, q15 ∉ qs_L (qs_wR (qs_nA (qs_wR (qs_nA SA q1 8 10) 3 a0z (some q1)) q8 8 10) 4 a0z (some q8)) → q15 ≠ t0 → ((3 + 1 ≤ mc ∧ 30 + 24 ≤ ms)) ∧ (∀ q22 : Nat, q22 ∉ qs_L (qs_wR (qs_nA (qs_wR (qs_nA (qs_wR (qs_nA SA q1 8 10) 3 a0z (some q1)) q8 8 10) 4 a0z (some q8)) q15 9 10) 5 a0z (some q15)) → q22 ≠ t0 → ∀ S29 : qs_S, S29 = qs_wR (qs_nA (qs_wR (qs_nA (qs_wR (qs_nA (qs_wR (qs_nA SA q1 8 10) 3 a0z (some q1)) q8 8 10) 4 a0z (some q8)) q15 9 10) 5 a0z (some q15)) q22 8 24) 7 a0z (some q22) → ((4 + 1 ≤ mc ∧ 54 + 24 ≤ ms)) ∧ (∀ q32 : Nat, q32 ∉ qs_L S29 → q32 ≠ t0 → ((5 + 1 ≤ mc ∧ 78 + 24 ≤ ms)) ∧ (∀ q39 : Nat, q39 ∉ qs_L (qs_wR (qs_nA S29 q32 8 24) 8 a0z (some q32)) → q39 ≠ t0 → ((6 + 1 ≤ mc ∧ 102 + 24 ≤ ms)) ∧ (∀ q46 : Nat, q46 ∉ qs_L (qs_wR (qs_nA (qs_wR (qs_nA S29 q32 8 24) 8 a0z (some q32)) q39 8 24) 9 a0z (some q39)) → q46 ≠ t0 → ((7 + 1 ≤ mc ∧ 126 + 24 ≤ ms)) ∧ (∀ q53 : Nat, q53 ∉ qs_L (qs_wR (qs_nA (qs_wR (qs_nA (qs_wR (qs_nA S29 q32 8 24) 8 a0z (some q32)) q39 8 24) 9 a0z (some q39)) q46 8 24) 10 a0z (some q46)) → q53 ≠ t0 → ∀ S60 : qs_S, S60 = qs_wR (qs_nA (qs_wR (qs_nA (qs_wR (qs_nA (qs_wR (qs_nA S29 q32 8 24) 8 a0z (some q32)) q39 8 24) 9 a0z (some q39)) q46 8 24) 10 a0z (some q46)) q53 8 24) 11 a0z (some q53) → ((8 + 1 ≤ mc ∧ 150 + 24 ≤ ms)) ∧ (∀ q63 : Nat, q63 ∉ qs_L S60 → q63 ≠ t0 → ((9 + 1 ≤ mc ∧ 174 + 24 ≤ ms)) ∧ (∀ q70 : Nat, q70 ∉ qs_L (qs_wR (qs_nA S60 q63 8 24) 12 a0z (some q63)) → q70 ≠ t0 → ((10 + 1 ≤ mc ∧ 198 + 6 ≤ ms)) ∧ (∀ q77 : Nat, q77 ∉ qs_L (qs_wR (qs_nA (qs_wR (qs_nA S60 q63 8 24) 12 a0z (some q63)) q70 8 24) 13 a0z (some q70)) → q77 ≠ t0 → ((11 + 1 ≤ mc ∧ 204 + 24 ≤ ms)) ∧ (∀ q84 : Nat, q84 ∉ qs_L (qs_wR (qs_nA (qs_wR (qs_nA (qs_wR (qs_nA S60 q63 8 24) 12 a0z (some q63)) q70 8 24) 13 a0z (some q70)) q77 8 6) 14 a0z (some q77)) → q84 ≠ t0 → ∀ S91 : qs_S, S91 = qs_wR (qs_nA (qs_wR (qs_nA (qs_wR (qs_nA (qs_wR (qs_nA S60 q63 8 24) 12 a0z (some q63)) q70 8 24) 13 a0z (some q70)) q77 8 6) 14 a0z (some q77)) q84 8 24) 15 a0z (some q84) → ((12 + 1 ≤ mc ∧ 228 + 4 ≤ ms)) ∧ (∀ q94 : Nat, q94 ∉ qs_L S91 → q94 ≠ t0 → vp_in (0 : Int32) (qs_Z (qs_nA S91 q94 8 4) q94) ∧ (vp_in (1 : Int32) (qs_Z (qs_wA (qs_nA S91 q94 8 4) q94 (0 : Int32).toNatClampNeg (0 : Int32)) q94) ∧ (vp_in (2 : Int32) (qs_Z (qs_wA (qs_wA (qs_nA S91 q94 8 4) q94 (0 : Int32).toNatClampNeg (0 : Int32)) q94 (1 : Int32).toNatClampNeg (5 : Int32)) q94) ∧ (∀ S104 : qs_S, S104 = qs_wA (qs_wA (qs_wA (qs_nA S91 q94 8 4) q94 (0 : Int32).toNatClampNeg (0 : Int32)) q94 (1 : Int32).toNatClampNeg (5 : Int32)) q94 (2 : Int32).toNatClampNeg (10 : Int32) → vp_in (3 : Int32) (qs_Z S104 q94) ∧ (((13 + 1 ≤ mc ∧ 232 + 8 ≤ ms)) ∧ (∀ q110 : Nat, q110 ∉ qs_L (qs_wR (qs_wA S104 q94 (3 : Int32).toNatClampNeg (15 : Int32)) 16 a0z (some q94)) → q110 ≠ t0 → ((14 + 1 ≤ mc ∧ 240 + 80 ≤ ms)) ∧ (∀ q117 : Nat, q117 ∉ qs_L (qs_wR (qs_nA (qs_wR (qs_wA S104 q94 (3 : Int32).toNatClampNeg (15 : Int32)) 16 a0z (some q94)) q110 9 8) 17 a0z (some q110)) → q117 ≠ t0 → ∀ S124 : qs_S, S124 = qs_wR (qs_nA (qs_wR (qs_nA (qs_wR (qs_wA S104 q94 (3 : Int32).toNatClampNeg (15 : Int32)) 16 a0z (some q94)) q110 9 8) 17 a0z (some q110)) q117 8 80) 19 a0z (some q117) → ((15 + 1 ≤ mc ∧ 320 + 80 ≤ ms)) ∧ (∀ q127 : Nat, q127 ∉ qs_L S124 → q127 ≠ t0 → ((16 + 1 ≤ mc ∧ 400 + 80 ≤ ms)) ∧ (∀ q134 : Nat, q134 ∉ qs_L (qs_wR (qs_nA S124 q127 8 80) 20 a0z (some q127)) → q134 ≠ t0 → ((17 + 1 ≤ mc ∧ 480 + 80 ≤ ms)) ∧ (∀ q141 : Nat, q141 ∉ qs_L (qs_wR (qs_nA (qs_wR (qs_nA S124 q127 8 80) 20 a0z (some q127)) q134 8 80) 21 a0z (some q134)) → q141 ≠ t0 → ((18 + 1 ≤ mc ∧ 560 + 80 ≤ ms)) ∧ (∀ q148 : Nat, q148 ∉ qs_L (qs_wR (qs_nA (qs_wR (qs_nA (qs_wR (qs_nA S124 q127 8 80) 20 a0z (some q127)) q134 8 80) 21 a0z (some q134)) q141 8 80) 22 a0z (some q141)) → q148 ≠ t0 → ∀ S155 : qs_S, S155 = qs_nA (qs_wR (qs_nA (qs_wR (qs_nA (qs_wR (qs_nA S124 q127 8 80) 20 a0z (some q127)) q134 8 80) 21 a0z (some q134)) q141 8 80) 22 a0z (some q141)) q148 8 80 → ((19 + 1 ≤ mc ∧ 640 + 80 ≤ ms)) ∧ (∀ q160 : Nat, q160 ∉ qs_L (qs_wR S155 23 a0z (some q148)) → q160 ≠ t0 → ((20 + 1 ≤ mc ∧ 720 + 80 ≤ ms)) ∧ (∀ q167 : Nat, q167 ∉ qs_L (qs_wR (qs_nA (qs_wR S155 23 a0z (some q148)) q160 9 80) 24 a0z (some q160)) → q167 ≠ t0 → ((21 + 1 ≤ mc ∧ 800 + 80 ≤ ms)) ∧ (∀ q174 : Nat, q174 ∉ qs_L (qs_wR (qs_nA (qs_wR (qs_nA (qs_wR S155 23 a0z (some q148)) q160 9 80) 24 a0z (some q160)) q167 8 80) 26 a0z (some q167)) → q174 ≠ t0 → ∀ S181 : qs_S, S181 = qs_wR (qs_nA (qs_wR (qs_nA (qs_wR (qs_nA (qs_wR S155 23 a0z (some q148)) q160 9 80) 24 a0z (some q160)) q167 8 80) 26 a0z (some q167)) q174 8 80) 28 a0z (some q174) → ((22 + 1 ≤ mc ∧ 880 + 8 ≤ ms)) ∧ (∀ q184 : Nat, q184 ∉ qs_L S181 → q184 ≠ t0 → ((23 + 1 ≤ mc ∧ 888 + 640 ≤ ms)) ∧ (∀ q191 : Nat, q191 ∉ qs_L (qs_wR (qs_nA S181 q184 8 8) 29 a0z (some q184)) → q191 ≠ t0 → ((24 + 1 ≤ mc ∧ 1528 + 8 ≤ ms)) ∧ (∀ q198 : Nat, q198 ∉ qs_L (qs_wR (qs_nA (qs_wR (qs_nA S181 q184 8 8) 29 a0z (some q184)) q191 8 640) 30 a0z (some q191)) → q198 ≠ t0 → ((25 + 1 ≤ mc ∧ 1536 + 8 ≤ ms)) ∧ (∀ q205 : Nat, q205 ∉ qs_L (qs_wR (qs_nA (qs_wR (qs_nA (qs_wR (qs_nA S181 q184 8 8) 29 a0z (some q184)) q191 8 640) 30 a0z (some q191)) q198 8 8) 31 a0z (some q198)) → q205 ≠ t0 → ∀ S212 : qs_S, S212 = qs_nA (qs_wR (qs_nA (qs_wR (qs_nA (qs_wR (qs_nA S181 q184 8 8) 29 a0z (some q184)) q191 8 640) 30 a0z (some q191)) q198 8 8) 31 a0z (some q198)) q205 8 8 → ((26 + 1 ≤ mc ∧ 1544 + 8 ≤ ms)) ∧ (∀ q217 : Nat, q217 ∉ qs_L (qs_wR S212 32 a0z (some q205)) → q217 ≠ t0 → vp_in (0 : Int32) (qs_Z (qs_nA (qs_wR S212 32 a0z (some q205)) q217 8 8) q217) ∧ (vp_in (1 : Int32) (qs_Z (qs_wA (qs_nA (qs_wR S212 32 a0z (some q205)) q217 8 8) q217 (0 : Int32).toNatClampNeg (-1 : Int32)) q217) ∧ (vp_in (2 : Int32) (qs_Z (qs_wA (qs_wA (qs_nA (qs_wR S212 32 a0z (some q205)) q217 8 8) q217 (0 : Int32).toNatClampNeg (-1 : Int32)) q217 (1 : Int32).toNatClampNeg (-1 : Int32)) q217) ∧ (∀ S227 : qs_S, S227 = qs_wA (qs_wA (qs_wA (qs_nA (qs_wR S212 32 a0z (some q205)) q217 8 8) q217 (0 : Int32).toNatClampNeg (-1 : Int32)) q217 (1 : Int32).toNatClampNeg (-1 : Int32)) q217 (2 : Int32).toNatClampNeg (-1 : Int32) → vp_in (3 : Int32) (qs_Z S227 q217) ∧ (vp_in (4 : Int32) (qs_Z (qs_wA S227 q217 (3 : Int32).toNatClampNeg (-1 : Int32)) q217) ∧ (vp_in (5 : Int32) (qs_Z (qs_wA (qs_wA S227 q217 (3 : Int32).toNatClampNeg (-1 : Int32)) q217 (4 : Int32).toNatClampNeg (-1 : Int32)) q217) ∧ (∀ S235 : qs_S, S235 = qs_wA (qs_wA (qs_wA S227 q217 (3 : Int32).toNatClampNeg (-1 : Int32)) q217 (4 : Int32).toNatClampNeg (-1 : Int32)) q217 (5 : Int32).toNatClampNeg (-1 : Int32) → vp_in (6 : Int32) (qs_Z S235 q217) ∧ (vp_in (7 : Int32) (qs_Z (qs_wA S235 q217 (6 : Int32).toNatClampNeg (-1 : Int32)) q217) ∧ (((27 + 1 ≤ mc ∧ 1552 + 8 ≤ ms)) ∧ (∀ q242 : Nat, q242 ∉ qs_L (qs_wR (qs_wA (qs_wA S235 q217 (6 : Int32).toNatClampNeg (-1 : Int32)) q217 (7 : Int32).toNatClampNeg (-1 : Int32)) 33 a0z (some q217)) → q242 ≠ t0 → vp_in (0 : Int32) (qs_Z (qs_nA (qs_wR (qs_wA (qs_wA S235 q217 (6 : Int32).toNatClampNeg (-1 : Int32)) q217 (7 : Int32).toNatClampNeg (-1 : Int32)) 33 a0z (some q217)) q242 8 8) q242) ∧ (∀ S250 : qs_S, S250 = qs_wA (qs_nA (qs_wR (qs_wA (qs_wA S235 q217 (6 : Int32).toNatClampNeg (-1 : Int32)) q217 (7 : Int32).toNatClampNeg (-1 : Int32)) 33 a0z (some q217)) q242 8 8) q242 (0 : Int32).toNatClampNeg (-1 : Int32) → vp_in (1 : Int32) (qs_Z S250 q242) ∧ (vp_in (2 : Int32) (qs_Z (qs_wA S250 q242 (1 : Int32).toNatClampNeg (-1 : Int32)) q242) ∧ (vp_in (3 : Int32) (qs_Z (qs_wA (qs_wA S250 q242 (1 : Int32).toNatClampNeg (-1 : Int32)) q242 (2 : Int32).toNatClampNeg (-1 : Int32)) q242) ∧ (∀ S258 : qs_S, S258 = qs_wA (qs_wA (qs_wA S250 q242 (1 : Int32).toNatClampNeg (-1 : Int32)) q242 (2 : Int32).toNatClampNeg (-1 : Int32)) q242 (3 : Int32).toNatClampNeg (-1 : Int32) → vp_in (4 : Int32) (qs_Z S258 q242) ∧ (vp_in (5 : Int32) (qs_Z (qs_wA S258 q242 (4 : Int32).toNatClampNeg (-1 : Int32)) q242) ∧ (vp_in (6 : Int32) (qs_Z (qs_wA (qs_wA S258 q242 (4 : Int32).toNatClampNeg (-1 : Int32)) q242 (5 : Int32).toNatClampNeg (-1 : Int32)) q242) ∧ (∀ S266 : qs_S, S266 = qs_wA (qs_wA (qs_wA S258 q242 (4 : Int32).toNatClampNeg (-1 : Int32)) q242 (5 : Int32).toNatClampNeg (-1 : Int32)) q242 (6 : Int32).toNatClampNeg (-1 : Int32) → vp_in (7 : Int32) (qs_Z S266 q242) ∧ (post (qs_wR (qs_wA S266 q242 (7 : Int32).toNatClampNeg (-1 : Int32)) 34 a0z (some q242)))))))))))))))))))))))))))))))))))))))))))))))))))
set_option maxHeartbeats 4000000 in
set_option maxRecDepth 100000 in
theorem c_X7_init (l : Launch) (g : qs_G) (sz : Nat) (SA : qs_S) (a0z : Nat) {mc ms : Nat} {post : qs_S → Prop} (h : wp_X7_init g.2.2.2.2.2.2.1 g.2.2.2.2.2.2.2 mc ms post SA a0z) : Met l yX7_init wsX7_init ({ frames := 1, cells := mc, slots := ms, locals := 20 } : Room) (qs_Pc g sz SA [.ref a0z]) (qs_Qv g (qs_F g SA sz) post) mc ms (qs_F g SA sz) := by
  refine Met.ofW (cc := cX7_init) (maxL := 1) (ret := none) (by decide +kernel) rfl ?_
  intro p e s m args below meth c s₁ B hml hv
  obtain ⟨rfl, hsz, hG⟩ := qs_Gd.start hv
  subst hsz
  have hx := B.exec
  have hb := B.bytes
  have hr := B.returns
  have hts := atoms_spec (ws := wsX7_init) B.pre
  have hown : s.vm.findClass RX7 = some m.cls := findClass_of_methodNamed B.named
  have hlk := B.notSynchronized
  have hin9 : meth.name = "<init>" := (name_of_methodNamed B.named B.method).1
  have in7 : ∀ w ∈ u_ws RX7 TX7 35, w ∈ wsX7_init := fun w h => List.mem_cons_of_mem _ (List.mem_append_right _ (h))
  have hkc : 0 ≤ mc := Nat.zero_le _
  have hks : 0 ≤ ms := Nat.zero_le _
  have hmR : mc ≤ (headSpec wsX7_init ({ frames := 1, cells := mc, slots := ms, locals := 20 } : Room)).room.cells := Nat.le_refl _
  have hsR : ms ≤ (headSpec wsX7_init ({ frames := 1, cells := mc, slots := ms, locals := 20 } : Room)).room.slots := Nat.le_refl _
  have hl := lv_entry ([.ref a0z]) (n := 1) (Nat.le_of_ble_eq_true rfl)
  rw [lg_entry_eq]
  generalize (lg_sl ([.ref a0z]) ++ List.replicate (1 - (lg_sl ([.ref a0z])).length) Slot.unset).toArray = ls at hl ⊢
  have hl : lv_has ls 1 [(0, .ref a0z)] := hl
  unfold wp_X7_init at h
  refine lv_aload_n hx hb dX7_init_0 rfl (lv_at hl 0 rfl) ?_
  refine W.objInit hx hb hown (hts (.methodLink RX7 1 objectInit) (List.mem_of_getElem? (i := 1) rfl)) (hts (.instanceMethod objectInit) (List.mem_of_getElem? (i := 2) rfl)) (hts (.code objectInit ⟨#[0xb1]⟩ 1 none) (List.mem_of_getElem? (i := 3) rfl)) rfl (hl.1.trans hml.symm) rfl dX7_init_1 (Nat.le_of_ble_eq_true rfl) (Nat.le_of_ble_eq_true rfl) ?_
  refine W.eq (g2 := F0 m 4 ls []) rfl ?_
  refine lv_aload_n hx hb dX7_init_4 rfl (lv_at hl 0 rfl) ?_
  refine lv_bipush (v := (10 : Int32)) hx hb dX7_init_5 (by decide +kernel) ?_
  obtain ⟨⟨hs2c, hs2s⟩, h⟩ := h
  refine qr_newI hx hb (hts (.arrayClass .int) (List.mem_of_getElem? (i := 4) rfl)) hG (by decide) (by decide) (by decide) (Nat.le_trans hs2c hmR) (Nat.le_trans hs2s hsR) dX7_init_7 (fun q1 H hq3 hq3t hG => ?_)
  have hkc := hs2c
  have hks := hs2s
  have h := h q1 hq3 hq3t
  have hL4 := qs_nAN (S := SA) (q := q1) (ci := 8) (n := 10)
  have fK5 := qs_nAM (S := SA) (q := q1) (ci := 8) (n := 10)
  obtain ⟨⟨hL6, fK7⟩, h⟩ := h
  refine qr_putRF (C := RX7) (T := TX7) (N := 35) (ci := 7) hx hb hts in7 tyX7 tyX7_ok nmX7 hown hG hL6 fK7 (by decide) rfl 3 (by decide) rfl (hts (.fieldLink RX7 7 "QuayMeshModel" "from" "[I") (List.mem_of_getElem? (i := 5) rfl)) (fun _ h9 => h9) rfl hin9 rfl (x := some q1) rfl (tyX7_ok 3 (by decide)) rfl rfl dX7_init_9 (fun H locs hG => ?_)
  refine lv_aload_n hx hb dX7_init_12 rfl (lv_at hl 0 rfl) ?_
  refine lv_bipush (v := (10 : Int32)) hx hb dX7_init_13 (by decide +kernel) ?_
  obtain ⟨⟨hs9c, hs9s⟩, h⟩ := h
  refine qr_newI hx hb (hts (.arrayClass .int) (List.mem_of_getElem? (i := 4) rfl)) hG (by decide) (by decide) (by decide) (Nat.le_trans hs9c hmR) (Nat.le_trans hs9s hsR) dX7_init_15 (fun q8 H hq10 hq10t hG => ?_)
  have hkc := hs9c
  have hks := hs9s
  have h := h q8 hq10 hq10t
  have hL11 := qs_nAL (S := (qs_wR (qs_nA SA q1 8 10) 3 a0z (some q1))) (q := q8) (ci := 8) (n := 10) hL6
  have fK12 := qs_nAK (S := (qs_wR (qs_nA SA q1 8 10) 3 a0z (some q1))) (q := q8) (ci := 8) (n := 10) hq10 hL6 fK7
  have hL13 := qs_nAN (S := (qs_wR (qs_nA SA q1 8 10) 3 a0z (some q1))) (q := q8) (ci := 8) (n := 10)
  have fK14 := qs_nAM (S := (qs_wR (qs_nA SA q1 8 10) 3 a0z (some q1))) (q := q8) (ci := 8) (n := 10)
  refine qr_putRF (C := RX7) (T := TX7) (N := 35) (ci := 7) hx hb hts in7 tyX7 tyX7_ok nmX7 hown hG hL11 fK12 (by decide) rfl 4 (by decide) rfl (hts (.fieldLink RX7 13 "QuayMeshModel" "length" "[I") (List.mem_of_getElem? (i := 6) rfl)) (fun _ h9 => h9) rfl hin9 rfl (x := some q8) rfl (tyX7_ok 4 (by decide)) rfl rfl dX7_init_17 (fun H locs hG => ?_)
  refine lv_aload_n hx hb dX7_init_20 rfl (lv_at hl 0 rfl) ?_
  refine lv_bipush (v := (10 : Int32)) hx hb dX7_init_21 (by decide +kernel) ?_
  obtain ⟨⟨hs16c, hs16s⟩, h⟩ := h
  refine qr_newZ hx hb (hts (.arrayClass .boolean) (List.mem_of_getElem? (i := 7) rfl)) hG (by decide) (by decide) (by decide) (Nat.le_trans hs16c hmR) (Nat.le_trans hs16s hsR) dX7_init_23 (fun q15 H hq17 hq17t hG => ?_)
  have hkc := hs16c
  have hks := hs16s
  have h := h q15 hq17 hq17t
  have hL18 := qs_nAL (S := (qs_wR (qs_nA (qs_wR (qs_nA SA q1 8 10) 3 a0z (some q1)) q8 8 10) 4 a0z (some q8))) (q := q15) (ci := 9) (n := 10) hL11
  have fK19 := qs_nAK (S := (qs_wR (qs_nA (qs_wR (qs_nA SA q1 8 10) 3 a0z (some q1)) q8 8 10) 4 a0z (some q8))) (q := q15) (ci := 9) (n := 10) hq17 hL11 fK12
  have hL20 := qs_nAN (S := (qs_wR (qs_nA (qs_wR (qs_nA SA q1 8 10) 3 a0z (some q1)) q8 8 10) 4 a0z (some q8))) (q := q15) (ci := 9) (n := 10)
  have fK21 := qs_nAM (S := (qs_wR (qs_nA (qs_wR (qs_nA SA q1 8 10) 3 a0z (some q1)) q8 8 10) 4 a0z (some q8))) (q := q15) (ci := 9) (n := 10)
  refine qr_putRF (C := RX7) (T := TX7) (N := 35) (ci := 7) hx hb hts in7 tyX7 tyX7_ok nmX7 hown hG hL18 fK19 (by decide) rfl 5 (by decide) rfl (hts (.fieldLink RX7 16 "QuayMeshModel" "hasLeft" "[Z") (List.mem_of_getElem? (i := 8) rfl)) (fun _ h9 => h9) rfl hin9 rfl (x := some q15) rfl (tyX7_ok 5 (by decide)) rfl rfl dX7_init_25 (fun H locs hG => ?_)
  refine lv_aload_n hx hb dX7_init_28 rfl (lv_at hl 0 rfl) ?_
  refine lv_bipush (v := (24 : Int32)) hx hb dX7_init_29 (by decide +kernel) ?_
  obtain ⟨⟨hs23c, hs23s⟩, h⟩ := h
  refine qr_newI hx hb (hts (.arrayClass .int) (List.mem_of_getElem? (i := 4) rfl)) hG (by decide) (by decide) (by decide) (Nat.le_trans hs23c hmR) (Nat.le_trans hs23s hsR) dX7_init_31 (fun q22 H hq24 hq24t hG => ?_)
  have hkc := hs23c
  have hks := hs23s
  have h := h q22 hq24 hq24t
  have hL25 := qs_nAL (S := (qs_wR (qs_nA (qs_wR (qs_nA (qs_wR (qs_nA SA q1 8 10) 3 a0z (some q1)) q8 8 10) 4 a0z (some q8)) q15 9 10) 5 a0z (some q15))) (q := q22) (ci := 8) (n := 24) hL18
  have fK26 := qs_nAK (S := (qs_wR (qs_nA (qs_wR (qs_nA (qs_wR (qs_nA SA q1 8 10) 3 a0z (some q1)) q8 8 10) 4 a0z (some q8)) q15 9 10) 5 a0z (some q15))) (q := q22) (ci := 8) (n := 24) hq24 hL18 fK19
  have hL27 := qs_nAN (S := (qs_wR (qs_nA (qs_wR (qs_nA (qs_wR (qs_nA SA q1 8 10) 3 a0z (some q1)) q8 8 10) 4 a0z (some q8)) q15 9 10) 5 a0z (some q15))) (q := q22) (ci := 8) (n := 24)
  have fK28 := qs_nAM (S := (qs_wR (qs_nA (qs_wR (qs_nA (qs_wR (qs_nA SA q1 8 10) 3 a0z (some q1)) q8 8 10) 4 a0z (some q8)) q15 9 10) 5 a0z (some q15))) (q := q22) (ci := 8) (n := 24)
  refine qr_putRF (C := RX7) (T := TX7) (N := 35) (ci := 7) hx hb hts in7 tyX7 tyX7_ok nmX7 hown hG hL25 fK26 (by decide) rfl 7 (by decide) rfl (hts (.fieldLink RX7 20 "QuayMeshModel" "shipOf" "[I") (List.mem_of_getElem? (i := 9) rfl)) (fun _ h9 => h9) rfl hin9 rfl (x := some q22) rfl (tyX7_ok 7 (by decide)) rfl rfl dX7_init_33 (fun H locs hG => ?_)
  obtain ⟨S29, eS29⟩ : ∃ z : qs_S, z = qs_wR (qs_nA (qs_wR (qs_nA (qs_wR (qs_nA (qs_wR (qs_nA SA q1 8 10) 3 a0z (some q1)) q8 8 10) 4 a0z (some q8)) q15 9 10) 5 a0z (some q15)) q22 8 24) 7 a0z (some q22) := ⟨_, rfl⟩
  have h := h S29 eS29
  rw [← eS29] at hG
  have hL30 : a0z ∈ qs_L S29 := by rw [eS29]; exact hL25
  have fK31 : qs_K S29 a0z = 7 := by rw [eS29]; exact fK26
  refine lv_aload_n hx hb dX7_init_36 rfl (lv_at hl 0 rfl) ?_
  refine lv_bipush (v := (24 : Int32)) hx hb dX7_init_37 (by decide +kernel) ?_
  obtain ⟨⟨hs33c, hs33s⟩, h⟩ := h
  refine qr_newI hx hb (hts (.arrayClass .int) (List.mem_of_getElem? (i := 4) rfl)) hG (by decide) (by decide) (by decide) (Nat.le_trans hs33c hmR) (Nat.le_trans hs33s hsR) dX7_init_39 (fun q32 H hq34 hq34t hG => ?_)
  have hkc := hs33c
  have hks := hs33s
  have h := h q32 hq34 hq34t
  have hL35 := qs_nAL (S := S29) (q := q32) (ci := 8) (n := 24) hL30
  have fK36 := qs_nAK (S := S29) (q := q32) (ci := 8) (n := 24) hq34 hL30 fK31
  have hL37 := qs_nAN (S := S29) (q := q32) (ci := 8) (n := 24)
  have fK38 := qs_nAM (S := S29) (q := q32) (ci := 8) (n := 24)
  refine qr_putRF (C := RX7) (T := TX7) (N := 35) (ci := 7) hx hb hts in7 tyX7 tyX7_ok nmX7 hown hG hL35 fK36 (by decide) rfl 8 (by decide) rfl (hts (.fieldLink RX7 23 "QuayMeshModel" "placeOf" "[I") (List.mem_of_getElem? (i := 10) rfl)) (fun _ h9 => h9) rfl hin9 rfl (x := some q32) rfl (tyX7_ok 8 (by decide)) rfl rfl dX7_init_41 (fun H locs hG => ?_)
  refine lv_aload_n hx hb dX7_init_44 rfl (lv_at hl 0 rfl) ?_
  refine lv_bipush (v := (24 : Int32)) hx hb dX7_init_45 (by decide +kernel) ?_
  obtain ⟨⟨hs40c, hs40s⟩, h⟩ := h
  refine qr_newI hx hb (hts (.arrayClass .int) (List.mem_of_getElem? (i := 4) rfl)) hG (by decide) (by decide) (by decide) (Nat.le_trans hs40c hmR) (Nat.le_trans hs40s hsR) dX7_init_47 (fun q39 H hq41 hq41t hG => ?_)
  have hkc := hs40c
  have hks := hs40s
  have h := h q39 hq41 hq41t
  have hL42 := qs_nAL (S := (qs_wR (qs_nA S29 q32 8 24) 8 a0z (some q32))) (q := q39) (ci := 8) (n := 24) hL35
  have fK43 := qs_nAK (S := (qs_wR (qs_nA S29 q32 8 24) 8 a0z (some q32))) (q := q39) (ci := 8) (n := 24) hq41 hL35 fK36
  have hL44 := qs_nAN (S := (qs_wR (qs_nA S29 q32 8 24) 8 a0z (some q32))) (q := q39) (ci := 8) (n := 24)
  have fK45 := qs_nAM (S := (qs_wR (qs_nA S29 q32 8 24) 8 a0z (some q32))) (q := q39) (ci := 8) (n := 24)
  refine qr_putRF (C := RX7) (T := TX7) (N := 35) (ci := 7) hx hb hts in7 tyX7 tyX7_ok nmX7 hown hG hL42 fK43 (by decide) rfl 9 (by decide) rfl (hts (.fieldLink RX7 26 "QuayMeshModel" "where" "[I") (List.mem_of_getElem? (i := 11) rfl)) (fun _ h9 => h9) rfl hin9 rfl (x := some q39) rfl (tyX7_ok 9 (by decide)) rfl rfl dX7_init_49 (fun H locs hG => ?_)
  refine lv_aload_n hx hb dX7_init_52 rfl (lv_at hl 0 rfl) ?_
  refine lv_bipush (v := (24 : Int32)) hx hb dX7_init_53 (by decide +kernel) ?_
  obtain ⟨⟨hs47c, hs47s⟩, h⟩ := h
  refine qr_newI hx hb (hts (.arrayClass .int) (List.mem_of_getElem? (i := 4) rfl)) hG (by decide) (by decide) (by decide) (Nat.le_trans hs47c hmR) (Nat.le_trans hs47s hsR) dX7_init_55 (fun q46 H hq48 hq48t hG => ?_)
  have hkc := hs47c
  have hks := hs47s
  have h := h q46 hq48 hq48t
  have hL49 := qs_nAL (S := (qs_wR (qs_nA (qs_wR (qs_nA S29 q32 8 24) 8 a0z (some q32)) q39 8 24) 9 a0z (some q39))) (q := q46) (ci := 8) (n := 24) hL42
  have fK50 := qs_nAK (S := (qs_wR (qs_nA (qs_wR (qs_nA S29 q32 8 24) 8 a0z (some q32)) q39 8 24) 9 a0z (some q39))) (q := q46) (ci := 8) (n := 24) hq48 hL42 fK43
  have hL51 := qs_nAN (S := (qs_wR (qs_nA (qs_wR (qs_nA S29 q32 8 24) 8 a0z (some q32)) q39 8 24) 9 a0z (some q39))) (q := q46) (ci := 8) (n := 24)
  have fK52 := qs_nAM (S := (qs_wR (qs_nA (qs_wR (qs_nA S29 q32 8 24) 8 a0z (some q32)) q39 8 24) 9 a0z (some q39))) (q := q46) (ci := 8) (n := 24)
  refine qr_putRF (C := RX7) (T := TX7) (N := 35) (ci := 7) hx hb hts in7 tyX7 tyX7_ok nmX7 hown hG hL49 fK50 (by decide) rfl 10 (by decide) rfl (hts (.fieldLink RX7 29 "QuayMeshModel" "at" "[I") (List.mem_of_getElem? (i := 12) rfl)) (fun _ h9 => h9) rfl hin9 rfl (x := some q46) rfl (tyX7_ok 10 (by decide)) rfl rfl dX7_init_57 (fun H locs hG => ?_)
  refine lv_aload_n hx hb dX7_init_60 rfl (lv_at hl 0 rfl) ?_
  refine lv_bipush (v := (24 : Int32)) hx hb dX7_init_61 (by decide +kernel) ?_
  obtain ⟨⟨hs54c, hs54s⟩, h⟩ := h
  refine qr_newI hx hb (hts (.arrayClass .int) (List.mem_of_getElem? (i := 4) rfl)) hG (by decide) (by decide) (by decide) (Nat.le_trans hs54c hmR) (Nat.le_trans hs54s hsR) dX7_init_63 (fun q53 H hq55 hq55t hG => ?_)
  have hkc := hs54c
  have hks := hs54s
  have h := h q53 hq55 hq55t
  have hL56 := qs_nAL (S := (qs_wR (qs_nA (qs_wR (qs_nA (qs_wR (qs_nA S29 q32 8 24) 8 a0z (some q32)) q39 8 24) 9 a0z (some q39)) q46 8 24) 10 a0z (some q46))) (q := q53) (ci := 8) (n := 24) hL49
  have fK57 := qs_nAK (S := (qs_wR (qs_nA (qs_wR (qs_nA (qs_wR (qs_nA S29 q32 8 24) 8 a0z (some q32)) q39 8 24) 9 a0z (some q39)) q46 8 24) 10 a0z (some q46))) (q := q53) (ci := 8) (n := 24) hq55 hL49 fK50
  have hL58 := qs_nAN (S := (qs_wR (qs_nA (qs_wR (qs_nA (qs_wR (qs_nA S29 q32 8 24) 8 a0z (some q32)) q39 8 24) 9 a0z (some q39)) q46 8 24) 10 a0z (some q46))) (q := q53) (ci := 8) (n := 24)
  have fK59 := qs_nAM (S := (qs_wR (qs_nA (qs_wR (qs_nA (qs_wR (qs_nA S29 q32 8 24) 8 a0z (some q32)) q39 8 24) 9 a0z (some q39)) q46 8 24) 10 a0z (some q46))) (q := q53) (ci := 8) (n := 24)
  refine qr_putRF (C := RX7) (T := TX7) (N := 35) (ci := 7) hx hb hts in7 tyX7 tyX7_ok nmX7 hown hG hL56 fK57 (by decide) rfl 11 (by decide) rfl (hts (.fieldLink RX7 32 "QuayMeshModel" "lifter" "[I") (List.mem_of_getElem? (i := 13) rfl)) (fun _ h9 => h9) rfl hin9 rfl (x := some q53) rfl (tyX7_ok 11 (by decide)) rfl rfl dX7_init_65 (fun H locs hG => ?_)
  obtain ⟨S60, eS60⟩ : ∃ z : qs_S, z = qs_wR (qs_nA (qs_wR (qs_nA (qs_wR (qs_nA (qs_wR (qs_nA S29 q32 8 24) 8 a0z (some q32)) q39 8 24) 9 a0z (some q39)) q46 8 24) 10 a0z (some q46)) q53 8 24) 11 a0z (some q53) := ⟨_, rfl⟩
  have h := h S60 eS60
  rw [← eS60] at hG
  have hL61 : a0z ∈ qs_L S60 := by rw [eS60]; exact hL56
  have fK62 : qs_K S60 a0z = 7 := by rw [eS60]; exact fK57
  refine lv_aload_n hx hb dX7_init_68 rfl (lv_at hl 0 rfl) ?_
  refine lv_bipush (v := (24 : Int32)) hx hb dX7_init_69 (by decide +kernel) ?_
  obtain ⟨⟨hs64c, hs64s⟩, h⟩ := h
  refine qr_newI hx hb (hts (.arrayClass .int) (List.mem_of_getElem? (i := 4) rfl)) hG (by decide) (by decide) (by decide) (Nat.le_trans hs64c hmR) (Nat.le_trans hs64s hsR) dX7_init_71 (fun q63 H hq65 hq65t hG => ?_)
  have hkc := hs64c
  have hks := hs64s
  have h := h q63 hq65 hq65t
  have hL66 := qs_nAL (S := S60) (q := q63) (ci := 8) (n := 24) hL61
  have fK67 := qs_nAK (S := S60) (q := q63) (ci := 8) (n := 24) hq65 hL61 fK62
  have hL68 := qs_nAN (S := S60) (q := q63) (ci := 8) (n := 24)
  have fK69 := qs_nAM (S := S60) (q := q63) (ci := 8) (n := 24)
  refine qr_putRF (C := RX7) (T := TX7) (N := 35) (ci := 7) hx hb hts in7 tyX7 tyX7_ok nmX7 hown hG hL66 fK67 (by decide) rfl 12 (by decide) rfl (hts (.fieldLink RX7 35 "QuayMeshModel" "booked" "[I") (List.mem_of_getElem? (i := 14) rfl)) (fun _ h9 => h9) rfl hin9 rfl (x := some q63) rfl (tyX7_ok 12 (by decide)) rfl rfl dX7_init_73 (fun H locs hG => ?_)
  refine lv_aload_n hx hb dX7_init_76 rfl (lv_at hl 0 rfl) ?_
  refine lv_bipush (v := (24 : Int32)) hx hb dX7_init_77 (by decide +kernel) ?_
  obtain ⟨⟨hs71c, hs71s⟩, h⟩ := h
  refine qr_newI hx hb (hts (.arrayClass .int) (List.mem_of_getElem? (i := 4) rfl)) hG (by decide) (by decide) (by decide) (Nat.le_trans hs71c hmR) (Nat.le_trans hs71s hsR) dX7_init_79 (fun q70 H hq72 hq72t hG => ?_)
  have hkc := hs71c
  have hks := hs71s
  have h := h q70 hq72 hq72t
  have hL73 := qs_nAL (S := (qs_wR (qs_nA S60 q63 8 24) 12 a0z (some q63))) (q := q70) (ci := 8) (n := 24) hL66
  have fK74 := qs_nAK (S := (qs_wR (qs_nA S60 q63 8 24) 12 a0z (some q63))) (q := q70) (ci := 8) (n := 24) hq72 hL66 fK67
  have hL75 := qs_nAN (S := (qs_wR (qs_nA S60 q63 8 24) 12 a0z (some q63))) (q := q70) (ci := 8) (n := 24)
  have fK76 := qs_nAM (S := (qs_wR (qs_nA S60 q63 8 24) 12 a0z (some q63))) (q := q70) (ci := 8) (n := 24)
  refine qr_putRF (C := RX7) (T := TX7) (N := 35) (ci := 7) hx hb hts in7 tyX7 tyX7_ok nmX7 hown hG hL73 fK74 (by decide) rfl 13 (by decide) rfl (hts (.fieldLink RX7 38 "QuayMeshModel" "gate" "[I") (List.mem_of_getElem? (i := 15) rfl)) (fun _ h9 => h9) rfl hin9 rfl (x := some q70) rfl (tyX7_ok 13 (by decide)) rfl rfl dX7_init_81 (fun H locs hG => ?_)
  refine lv_aload_n hx hb dX7_init_84 rfl (lv_at hl 0 rfl) ?_
  refine lv_bipush (v := (6 : Int32)) hx hb dX7_init_85 (by decide +kernel) ?_
  obtain ⟨⟨hs78c, hs78s⟩, h⟩ := h
  refine qr_newI hx hb (hts (.arrayClass .int) (List.mem_of_getElem? (i := 4) rfl)) hG (by decide) (by decide) (by decide) (Nat.le_trans hs78c hmR) (Nat.le_trans hs78s hsR) dX7_init_87 (fun q77 H hq79 hq79t hG => ?_)
  have hkc := hs78c
  have hks := hs78s
  have h := h q77 hq79 hq79t
  have hL80 := qs_nAL (S := (qs_wR (qs_nA (qs_wR (qs_nA S60 q63 8 24) 12 a0z (some q63)) q70 8 24) 13 a0z (some q70))) (q := q77) (ci := 8) (n := 6) hL73
  have fK81 := qs_nAK (S := (qs_wR (qs_nA (qs_wR (qs_nA S60 q63 8 24) 12 a0z (some q63)) q70 8 24) 13 a0z (some q70))) (q := q77) (ci := 8) (n := 6) hq79 hL73 fK74
  have hL82 := qs_nAN (S := (qs_wR (qs_nA (qs_wR (qs_nA S60 q63 8 24) 12 a0z (some q63)) q70 8 24) 13 a0z (some q70))) (q := q77) (ci := 8) (n := 6)
  have fK83 := qs_nAM (S := (qs_wR (qs_nA (qs_wR (qs_nA S60 q63 8 24) 12 a0z (some q63)) q70 8 24) 13 a0z (some q70))) (q := q77) (ci := 8) (n := 6)
  refine qr_putRF (C := RX7) (T := TX7) (N := 35) (ci := 7) hx hb hts in7 tyX7 tyX7_ok nmX7 hown hG hL80 fK81 (by decide) rfl 14 (by decide) rfl (hts (.fieldLink RX7 41 "QuayMeshModel" "height" "[I") (List.mem_of_getElem? (i := 16) rfl)) (fun _ h9 => h9) rfl hin9 rfl (x := some q77) rfl (tyX7_ok 14 (by decide)) rfl rfl dX7_init_89 (fun H locs hG => ?_)
  refine lv_aload_n hx hb dX7_init_92 rfl (lv_at hl 0 rfl) ?_
  refine lv_bipush (v := (24 : Int32)) hx hb dX7_init_93 (by decide +kernel) ?_
  obtain ⟨⟨hs85c, hs85s⟩, h⟩ := h
  refine qr_newI hx hb (hts (.arrayClass .int) (List.mem_of_getElem? (i := 4) rfl)) hG (by decide) (by decide) (by decide) (Nat.le_trans hs85c hmR) (Nat.le_trans hs85s hsR) dX7_init_95 (fun q84 H hq86 hq86t hG => ?_)
  have hkc := hs85c
  have hks := hs85s
  have h := h q84 hq86 hq86t
  have hL87 := qs_nAL (S := (qs_wR (qs_nA (qs_wR (qs_nA (qs_wR (qs_nA S60 q63 8 24) 12 a0z (some q63)) q70 8 24) 13 a0z (some q70)) q77 8 6) 14 a0z (some q77))) (q := q84) (ci := 8) (n := 24) hL80
  have fK88 := qs_nAK (S := (qs_wR (qs_nA (qs_wR (qs_nA (qs_wR (qs_nA S60 q63 8 24) 12 a0z (some q63)) q70 8 24) 13 a0z (some q70)) q77 8 6) 14 a0z (some q77))) (q := q84) (ci := 8) (n := 24) hq86 hL80 fK81
  have hL89 := qs_nAN (S := (qs_wR (qs_nA (qs_wR (qs_nA (qs_wR (qs_nA S60 q63 8 24) 12 a0z (some q63)) q70 8 24) 13 a0z (some q70)) q77 8 6) 14 a0z (some q77))) (q := q84) (ci := 8) (n := 24)
  have fK90 := qs_nAM (S := (qs_wR (qs_nA (qs_wR (qs_nA (qs_wR (qs_nA S60 q63 8 24) 12 a0z (some q63)) q70 8 24) 13 a0z (some q70)) q77 8 6) 14 a0z (some q77))) (q := q84) (ci := 8) (n := 24)
  refine qr_putRF (C := RX7) (T := TX7) (N := 35) (ci := 7) hx hb hts in7 tyX7 tyX7_ok nmX7 hown hG hL87 fK88 (by decide) rfl 15 (by decide) rfl (hts (.fieldLink RX7 44 "QuayMeshModel" "level" "[I") (List.mem_of_getElem? (i := 17) rfl)) (fun _ h9 => h9) rfl hin9 rfl (x := some q84) rfl (tyX7_ok 15 (by decide)) rfl rfl dX7_init_97 (fun H locs hG => ?_)
  obtain ⟨S91, eS91⟩ : ∃ z : qs_S, z = qs_wR (qs_nA (qs_wR (qs_nA (qs_wR (qs_nA (qs_wR (qs_nA S60 q63 8 24) 12 a0z (some q63)) q70 8 24) 13 a0z (some q70)) q77 8 6) 14 a0z (some q77)) q84 8 24) 15 a0z (some q84) := ⟨_, rfl⟩
  have h := h S91 eS91
  rw [← eS91] at hG
  have hL92 : a0z ∈ qs_L S91 := by rw [eS91]; exact hL87
  have fK93 : qs_K S91 a0z = 7 := by rw [eS91]; exact fK88
  refine lv_aload_n hx hb dX7_init_100 rfl (lv_at hl 0 rfl) ?_
  refine lv_iconst (v := (4 : Int32)) hx hb dX7_init_101 (by decide +kernel) ?_
  obtain ⟨⟨hs95c, hs95s⟩, h⟩ := h
  refine qr_newI hx hb (hts (.arrayClass .int) (List.mem_of_getElem? (i := 4) rfl)) hG (by decide) (by decide) (by decide) (Nat.le_trans hs95c hmR) (Nat.le_trans hs95s hsR) dX7_init_102 (fun q94 H hq96 hq96t hG => ?_)
  have hkc := hs95c
  have hks := hs95s
  have h := h q94 hq96 hq96t
  have hL97 := qs_nAL (S := S91) (q := q94) (ci := 8) (n := 4) hL92
  have fK98 := qs_nAK (S := S91) (q := q94) (ci := 8) (n := 4) hq96 hL92 fK93
  have hL99 := qs_nAN (S := S91) (q := q94) (ci := 8) (n := 4)
  have fK100 := qs_nAM (S := S91) (q := q94) (ci := 8) (n := 4)
  refine lv_dup hx hb dX7_init_104 rfl ?_
  refine lv_iconst (v := (0 : Int32)) hx hb dX7_init_105 (by decide +kernel) ?_
  refine lv_iconst (v := (0 : Int32)) hx hb dX7_init_106 (by decide +kernel) ?_
  obtain ⟨hi101, h⟩ := h
  refine qr_iast hx hb hG hL99 fK100 hi101 dX7_init_107 (fun H locs hG => ?_)
  refine lv_dup hx hb dX7_init_108 rfl ?_
  refine lv_iconst (v := (1 : Int32)) hx hb dX7_init_109 (by decide +kernel) ?_
  refine lv_iconst (v := (5 : Int32)) hx hb dX7_init_110 (by decide +kernel) ?_
  obtain ⟨hi102, h⟩ := h
  refine qr_iast hx hb hG hL99 fK100 hi102 dX7_init_111 (fun H locs hG => ?_)
  refine lv_dup hx hb dX7_init_112 rfl ?_
  refine lv_iconst (v := (2 : Int32)) hx hb dX7_init_113 (by decide +kernel) ?_
  refine lv_bipush (v := (10 : Int32)) hx hb dX7_init_114 (by decide +kernel) ?_
  obtain ⟨hi103, h⟩ := h
  refine qr_iast hx hb hG hL99 fK100 hi103 dX7_init_116 (fun H locs hG => ?_)
  obtain ⟨S104, eS104⟩ : ∃ z : qs_S, z = qs_wA (qs_wA (qs_wA (qs_nA S91 q94 8 4) q94 (0 : Int32).toNatClampNeg (0 : Int32)) q94 (1 : Int32).toNatClampNeg (5 : Int32)) q94 (2 : Int32).toNatClampNeg (10 : Int32) := ⟨_, rfl⟩
  have h := h S104 eS104
  rw [← eS104] at hG
  have hL105 : a0z ∈ qs_L S104 := by rw [eS104]; exact hL97
  have fK106 : qs_K S104 a0z = 7 := by rw [eS104]; exact fK98
  have hL107 : q94 ∈ qs_L S104 := by rw [eS104]; exact hL99
  have fK108 : qs_K S104 q94 = 8 := by rw [eS104]; exact fK100
  refine lv_dup hx hb dX7_init_117 rfl ?_
  refine lv_iconst (v := (3 : Int32)) hx hb dX7_init_118 (by decide +kernel) ?_
  refine lv_bipush (v := (15 : Int32)) hx hb dX7_init_119 (by decide +kernel) ?_
  obtain ⟨hi109, h⟩ := h
  refine qr_iast hx hb hG hL107 fK108 hi109 dX7_init_121 (fun H locs hG => ?_)
  refine qr_putRF (C := RX7) (T := TX7) (N := 35) (ci := 7) hx hb hts in7 tyX7 tyX7_ok nmX7 hown hG hL105 fK106 (by decide) rfl 16 (by decide) rfl (hts (.fieldLink RX7 47 "QuayMeshModel" "stands" "[I") (List.mem_of_getElem? (i := 18) rfl)) (fun _ h9 => h9) rfl hin9 rfl (x := some q94) rfl (tyX7_ok 16 (by decide)) rfl rfl dX7_init_122 (fun H locs hG => ?_)
  refine lv_aload_n hx hb dX7_init_125 rfl (lv_at hl 0 rfl) ?_
  refine lv_bipush (v := (8 : Int32)) hx hb dX7_init_126 (by decide +kernel) ?_
  obtain ⟨⟨hs111c, hs111s⟩, h⟩ := h
  refine qr_newZ hx hb (hts (.arrayClass .boolean) (List.mem_of_getElem? (i := 7) rfl)) hG (by decide) (by decide) (by decide) (Nat.le_trans hs111c hmR) (Nat.le_trans hs111s hsR) dX7_init_128 (fun q110 H hq112 hq112t hG => ?_)
  have hkc := hs111c
  have hks := hs111s
  have h := h q110 hq112 hq112t
  have hL113 := qs_nAL (S := (qs_wR (qs_wA S104 q94 (3 : Int32).toNatClampNeg (15 : Int32)) 16 a0z (some q94))) (q := q110) (ci := 9) (n := 8) hL105
  have fK114 := qs_nAK (S := (qs_wR (qs_wA S104 q94 (3 : Int32).toNatClampNeg (15 : Int32)) 16 a0z (some q94))) (q := q110) (ci := 9) (n := 8) hq112 hL105 fK106
  have hL115 := qs_nAN (S := (qs_wR (qs_wA S104 q94 (3 : Int32).toNatClampNeg (15 : Int32)) 16 a0z (some q94))) (q := q110) (ci := 9) (n := 8)
  have fK116 := qs_nAM (S := (qs_wR (qs_wA S104 q94 (3 : Int32).toNatClampNeg (15 : Int32)) 16 a0z (some q94))) (q := q110) (ci := 9) (n := 8)
  refine qr_putRF (C := RX7) (T := TX7) (N := 35) (ci := 7) hx hb hts in7 tyX7 tyX7_ok nmX7 hown hG hL113 fK114 (by decide) rfl 17 (by decide) rfl (hts (.fieldLink RX7 50 "QuayMeshModel" "isSilent" "[Z") (List.mem_of_getElem? (i := 19) rfl)) (fun _ h9 => h9) rfl hin9 rfl (x := some q110) rfl (tyX7_ok 17 (by decide)) rfl rfl dX7_init_130 (fun H locs hG => ?_)
  refine lv_aload_n hx hb dX7_init_133 rfl (lv_at hl 0 rfl) ?_
  refine lv_bipush (v := (80 : Int32)) hx hb dX7_init_134 (by decide +kernel) ?_
  obtain ⟨⟨hs118c, hs118s⟩, h⟩ := h
  refine qr_newI hx hb (hts (.arrayClass .int) (List.mem_of_getElem? (i := 4) rfl)) hG (by decide) (by decide) (by decide) (Nat.le_trans hs118c hmR) (Nat.le_trans hs118s hsR) dX7_init_136 (fun q117 H hq119 hq119t hG => ?_)
  have hkc := hs118c
  have hks := hs118s
  have h := h q117 hq119 hq119t
  have hL120 := qs_nAL (S := (qs_wR (qs_nA (qs_wR (qs_wA S104 q94 (3 : Int32).toNatClampNeg (15 : Int32)) 16 a0z (some q94)) q110 9 8) 17 a0z (some q110))) (q := q117) (ci := 8) (n := 80) hL113
  have fK121 := qs_nAK (S := (qs_wR (qs_nA (qs_wR (qs_wA S104 q94 (3 : Int32).toNatClampNeg (15 : Int32)) 16 a0z (some q94)) q110 9 8) 17 a0z (some q110))) (q := q117) (ci := 8) (n := 80) hq119 hL113 fK114
  have hL122 := qs_nAN (S := (qs_wR (qs_nA (qs_wR (qs_wA S104 q94 (3 : Int32).toNatClampNeg (15 : Int32)) 16 a0z (some q94)) q110 9 8) 17 a0z (some q110))) (q := q117) (ci := 8) (n := 80)
  have fK123 := qs_nAM (S := (qs_wR (qs_nA (qs_wR (qs_wA S104 q94 (3 : Int32).toNatClampNeg (15 : Int32)) 16 a0z (some q94)) q110 9 8) 17 a0z (some q110))) (q := q117) (ci := 8) (n := 80)
  refine qr_putRF (C := RX7) (T := TX7) (N := 35) (ci := 7) hx hb hts in7 tyX7 tyX7_ok nmX7 hown hG hL120 fK121 (by decide) rfl 19 (by decide) rfl (hts (.fieldLink RX7 53 "QuayMeshModel" "kind" "[I") (List.mem_of_getElem? (i := 20) rfl)) (fun _ h9 => h9) rfl hin9 rfl (x := some q117) rfl (tyX7_ok 19 (by decide)) rfl rfl dX7_init_138 (fun H locs hG => ?_)
  obtain ⟨S124, eS124⟩ : ∃ z : qs_S, z = qs_wR (qs_nA (qs_wR (qs_nA (qs_wR (qs_wA S104 q94 (3 : Int32).toNatClampNeg (15 : Int32)) 16 a0z (some q94)) q110 9 8) 17 a0z (some q110)) q117 8 80) 19 a0z (some q117) := ⟨_, rfl⟩
  have h := h S124 eS124
  rw [← eS124] at hG
  have hL125 : a0z ∈ qs_L S124 := by rw [eS124]; exact hL120
  have fK126 : qs_K S124 a0z = 7 := by rw [eS124]; exact fK121
  refine lv_aload_n hx hb dX7_init_141 rfl (lv_at hl 0 rfl) ?_
  refine lv_bipush (v := (80 : Int32)) hx hb dX7_init_142 (by decide +kernel) ?_
  obtain ⟨⟨hs128c, hs128s⟩, h⟩ := h
  refine qr_newI hx hb (hts (.arrayClass .int) (List.mem_of_getElem? (i := 4) rfl)) hG (by decide) (by decide) (by decide) (Nat.le_trans hs128c hmR) (Nat.le_trans hs128s hsR) dX7_init_144 (fun q127 H hq129 hq129t hG => ?_)
  have hkc := hs128c
  have hks := hs128s
  have h := h q127 hq129 hq129t
  have hL130 := qs_nAL (S := S124) (q := q127) (ci := 8) (n := 80) hL125
  have fK131 := qs_nAK (S := S124) (q := q127) (ci := 8) (n := 80) hq129 hL125 fK126
  have hL132 := qs_nAN (S := S124) (q := q127) (ci := 8) (n := 80)
  have fK133 := qs_nAM (S := S124) (q := q127) (ci := 8) (n := 80)
  refine qr_putRF (C := RX7) (T := TX7) (N := 35) (ci := 7) hx hb hts in7 tyX7 tyX7_ok nmX7 hown hG hL130 fK131 (by decide) rfl 20 (by decide) rfl (hts (.fieldLink RX7 56 "QuayMeshModel" "box" "[I") (List.mem_of_getElem? (i := 21) rfl)) (fun _ h9 => h9) rfl hin9 rfl (x := some q127) rfl (tyX7_ok 20 (by decide)) rfl rfl dX7_init_146 (fun H locs hG => ?_)
  refine lv_aload_n hx hb dX7_init_149 rfl (lv_at hl 0 rfl) ?_
  refine lv_bipush (v := (80 : Int32)) hx hb dX7_init_150 (by decide +kernel) ?_
  obtain ⟨⟨hs135c, hs135s⟩, h⟩ := h
  refine qr_newI hx hb (hts (.arrayClass .int) (List.mem_of_getElem? (i := 4) rfl)) hG (by decide) (by decide) (by decide) (Nat.le_trans hs135c hmR) (Nat.le_trans hs135s hsR) dX7_init_152 (fun q134 H hq136 hq136t hG => ?_)
  have hkc := hs135c
  have hks := hs135s
  have h := h q134 hq136 hq136t
  have hL137 := qs_nAL (S := (qs_wR (qs_nA S124 q127 8 80) 20 a0z (some q127))) (q := q134) (ci := 8) (n := 80) hL130
  have fK138 := qs_nAK (S := (qs_wR (qs_nA S124 q127 8 80) 20 a0z (some q127))) (q := q134) (ci := 8) (n := 80) hq136 hL130 fK131
  have hL139 := qs_nAN (S := (qs_wR (qs_nA S124 q127 8 80) 20 a0z (some q127))) (q := q134) (ci := 8) (n := 80)
  have fK140 := qs_nAM (S := (qs_wR (qs_nA S124 q127 8 80) 20 a0z (some q127))) (q := q134) (ci := 8) (n := 80)
  refine qr_putRF (C := RX7) (T := TX7) (N := 35) (ci := 7) hx hb hts in7 tyX7 tyX7_ok nmX7 hown hG hL137 fK138 (by decide) rfl 21 (by decide) rfl (hts (.fieldLink RX7 59 "QuayMeshModel" "target" "[I") (List.mem_of_getElem? (i := 22) rfl)) (fun _ h9 => h9) rfl hin9 rfl (x := some q134) rfl (tyX7_ok 21 (by decide)) rfl rfl dX7_init_154 (fun H locs hG => ?_)
  refine lv_aload_n hx hb dX7_init_157 rfl (lv_at hl 0 rfl) ?_
  refine lv_bipush (v := (80 : Int32)) hx hb dX7_init_158 (by decide +kernel) ?_
  obtain ⟨⟨hs142c, hs142s⟩, h⟩ := h
  refine qr_newI hx hb (hts (.arrayClass .int) (List.mem_of_getElem? (i := 4) rfl)) hG (by decide) (by decide) (by decide) (Nat.le_trans hs142c hmR) (Nat.le_trans hs142s hsR) dX7_init_160 (fun q141 H hq143 hq143t hG => ?_)
  have hkc := hs142c
  have hks := hs142s
  have h := h q141 hq143 hq143t
  have hL144 := qs_nAL (S := (qs_wR (qs_nA (qs_wR (qs_nA S124 q127 8 80) 20 a0z (some q127)) q134 8 80) 21 a0z (some q134))) (q := q141) (ci := 8) (n := 80) hL137
  have fK145 := qs_nAK (S := (qs_wR (qs_nA (qs_wR (qs_nA S124 q127 8 80) 20 a0z (some q127)) q134 8 80) 21 a0z (some q134))) (q := q141) (ci := 8) (n := 80) hq143 hL137 fK138
  have hL146 := qs_nAN (S := (qs_wR (qs_nA (qs_wR (qs_nA S124 q127 8 80) 20 a0z (some q127)) q134 8 80) 21 a0z (some q134))) (q := q141) (ci := 8) (n := 80)
  have fK147 := qs_nAM (S := (qs_wR (qs_nA (qs_wR (qs_nA S124 q127 8 80) 20 a0z (some q127)) q134 8 80) 21 a0z (some q134))) (q := q141) (ci := 8) (n := 80)
  refine qr_putRF (C := RX7) (T := TX7) (N := 35) (ci := 7) hx hb hts in7 tyX7 tyX7_ok nmX7 hown hG hL144 fK145 (by decide) rfl 22 (by decide) rfl (hts (.fieldLink RX7 62 "QuayMeshModel" "handed" "[I") (List.mem_of_getElem? (i := 23) rfl)) (fun _ h9 => h9) rfl hin9 rfl (x := some q141) rfl (tyX7_ok 22 (by decide)) rfl rfl dX7_init_162 (fun H locs hG => ?_)
  refine lv_aload_n hx hb dX7_init_165 rfl (lv_at hl 0 rfl) ?_
  refine lv_bipush (v := (80 : Int32)) hx hb dX7_init_166 (by decide +kernel) ?_
  obtain ⟨⟨hs149c, hs149s⟩, h⟩ := h
  refine qr_newI hx hb (hts (.arrayClass .int) (List.mem_of_getElem? (i := 4) rfl)) hG (by decide) (by decide) (by decide) (Nat.le_trans hs149c hmR) (Nat.le_trans hs149s hsR) dX7_init_168 (fun q148 H hq150 hq150t hG => ?_)
  have hkc := hs149c
  have hks := hs149s
  have h := h q148 hq150 hq150t
  have hL151 := qs_nAL (S := (qs_wR (qs_nA (qs_wR (qs_nA (qs_wR (qs_nA S124 q127 8 80) 20 a0z (some q127)) q134 8 80) 21 a0z (some q134)) q141 8 80) 22 a0z (some q141))) (q := q148) (ci := 8) (n := 80) hL144
  have fK152 := qs_nAK (S := (qs_wR (qs_nA (qs_wR (qs_nA (qs_wR (qs_nA S124 q127 8 80) 20 a0z (some q127)) q134 8 80) 21 a0z (some q134)) q141 8 80) 22 a0z (some q141))) (q := q148) (ci := 8) (n := 80) hq150 hL144 fK145
  have hL153 := qs_nAN (S := (qs_wR (qs_nA (qs_wR (qs_nA (qs_wR (qs_nA S124 q127 8 80) 20 a0z (some q127)) q134 8 80) 21 a0z (some q134)) q141 8 80) 22 a0z (some q141))) (q := q148) (ci := 8) (n := 80)
  have fK154 := qs_nAM (S := (qs_wR (qs_nA (qs_wR (qs_nA (qs_wR (qs_nA S124 q127 8 80) 20 a0z (some q127)) q134 8 80) 21 a0z (some q134)) q141 8 80) 22 a0z (some q141))) (q := q148) (ci := 8) (n := 80)
  obtain ⟨S155, eS155⟩ : ∃ z : qs_S, z = qs_nA (qs_wR (qs_nA (qs_wR (qs_nA (qs_wR (qs_nA S124 q127 8 80) 20 a0z (some q127)) q134 8 80) 21 a0z (some q134)) q141 8 80) 22 a0z (some q141)) q148 8 80 := ⟨_, rfl⟩
  have h := h S155 eS155
  rw [← eS155] at hG
  have hL156 : a0z ∈ qs_L S155 := by rw [eS155]; exact hL151
  have fK157 : qs_K S155 a0z = 7 := by rw [eS155]; exact fK152
  have hL158 : q148 ∈ qs_L S155 := by rw [eS155]; exact hL153
  have fK159 : qs_K S155 q148 = 8 := by rw [eS155]; exact fK154
  refine qr_putRF (C := RX7) (T := TX7) (N := 35) (ci := 7) hx hb hts in7 tyX7 tyX7_ok nmX7 hown hG hL156 fK157 (by decide) rfl 23 (by decide) rfl (hts (.fieldLink RX7 65 "QuayMeshModel" "made" "[I") (List.mem_of_getElem? (i := 24) rfl)) (fun _ h9 => h9) rfl hin9 rfl (x := some q148) rfl (tyX7_ok 23 (by decide)) rfl rfl dX7_init_170 (fun H locs hG => ?_)
  refine lv_aload_n hx hb dX7_init_173 rfl (lv_at hl 0 rfl) ?_
  refine lv_bipush (v := (80 : Int32)) hx hb dX7_init_174 (by decide +kernel) ?_
  obtain ⟨⟨hs161c, hs161s⟩, h⟩ := h
  refine qr_newZ hx hb (hts (.arrayClass .boolean) (List.mem_of_getElem? (i := 7) rfl)) hG (by decide) (by decide) (by decide) (Nat.le_trans hs161c hmR) (Nat.le_trans hs161s hsR) dX7_init_176 (fun q160 H hq162 hq162t hG => ?_)
  have hkc := hs161c
  have hks := hs161s
  have h := h q160 hq162 hq162t
  have hL163 := qs_nAL (S := (qs_wR S155 23 a0z (some q148))) (q := q160) (ci := 9) (n := 80) hL156
  have fK164 := qs_nAK (S := (qs_wR S155 23 a0z (some q148))) (q := q160) (ci := 9) (n := 80) hq162 hL156 fK157
  have hL165 := qs_nAN (S := (qs_wR S155 23 a0z (some q148))) (q := q160) (ci := 9) (n := 80)
  have fK166 := qs_nAM (S := (qs_wR S155 23 a0z (some q148))) (q := q160) (ci := 9) (n := 80)
  refine qr_putRF (C := RX7) (T := TX7) (N := 35) (ci := 7) hx hb hts in7 tyX7 tyX7_ok nmX7 hown hG hL163 fK164 (by decide) rfl 24 (by decide) rfl (hts (.fieldLink RX7 68 "QuayMeshModel" "isLogged" "[Z") (List.mem_of_getElem? (i := 25) rfl)) (fun _ h9 => h9) rfl hin9 rfl (x := some q160) rfl (tyX7_ok 24 (by decide)) rfl rfl dX7_init_178 (fun H locs hG => ?_)
  refine lv_aload_n hx hb dX7_init_181 rfl (lv_at hl 0 rfl) ?_
  refine lv_bipush (v := (80 : Int32)) hx hb dX7_init_182 (by decide +kernel) ?_
  obtain ⟨⟨hs168c, hs168s⟩, h⟩ := h
  refine qr_newI hx hb (hts (.arrayClass .int) (List.mem_of_getElem? (i := 4) rfl)) hG (by decide) (by decide) (by decide) (Nat.le_trans hs168c hmR) (Nat.le_trans hs168s hsR) dX7_init_184 (fun q167 H hq169 hq169t hG => ?_)
  have hkc := hs168c
  have hks := hs168s
  have h := h q167 hq169 hq169t
  have hL170 := qs_nAL (S := (qs_wR (qs_nA (qs_wR S155 23 a0z (some q148)) q160 9 80) 24 a0z (some q160))) (q := q167) (ci := 8) (n := 80) hL163
  have fK171 := qs_nAK (S := (qs_wR (qs_nA (qs_wR S155 23 a0z (some q148)) q160 9 80) 24 a0z (some q160))) (q := q167) (ci := 8) (n := 80) hq169 hL163 fK164
  have hL172 := qs_nAN (S := (qs_wR (qs_nA (qs_wR S155 23 a0z (some q148)) q160 9 80) 24 a0z (some q160))) (q := q167) (ci := 8) (n := 80)
  have fK173 := qs_nAM (S := (qs_wR (qs_nA (qs_wR S155 23 a0z (some q148)) q160 9 80) 24 a0z (some q160))) (q := q167) (ci := 8) (n := 80)
  refine qr_putRF (C := RX7) (T := TX7) (N := 35) (ci := 7) hx hb hts in7 tyX7 tyX7_ok nmX7 hown hG hL170 fK171 (by decide) rfl 26 (by decide) rfl (hts (.fieldLink RX7 71 "QuayMeshModel" "doneBy" "[I") (List.mem_of_getElem? (i := 26) rfl)) (fun _ h9 => h9) rfl hin9 rfl (x := some q167) rfl (tyX7_ok 26 (by decide)) rfl rfl dX7_init_186 (fun H locs hG => ?_)
  refine lv_aload_n hx hb dX7_init_189 rfl (lv_at hl 0 rfl) ?_
  refine lv_bipush (v := (80 : Int32)) hx hb dX7_init_190 (by decide +kernel) ?_
  obtain ⟨⟨hs175c, hs175s⟩, h⟩ := h
  refine qr_newI hx hb (hts (.arrayClass .int) (List.mem_of_getElem? (i := 4) rfl)) hG (by decide) (by decide) (by decide) (Nat.le_trans hs175c hmR) (Nat.le_trans hs175s hsR) dX7_init_192 (fun q174 H hq176 hq176t hG => ?_)
  have hkc := hs175c
  have hks := hs175s
  have h := h q174 hq176 hq176t
  have hL177 := qs_nAL (S := (qs_wR (qs_nA (qs_wR (qs_nA (qs_wR S155 23 a0z (some q148)) q160 9 80) 24 a0z (some q160)) q167 8 80) 26 a0z (some q167))) (q := q174) (ci := 8) (n := 80) hL170
  have fK178 := qs_nAK (S := (qs_wR (qs_nA (qs_wR (qs_nA (qs_wR S155 23 a0z (some q148)) q160 9 80) 24 a0z (some q160)) q167 8 80) 26 a0z (some q167))) (q := q174) (ci := 8) (n := 80) hq176 hL170 fK171
  have hL179 := qs_nAN (S := (qs_wR (qs_nA (qs_wR (qs_nA (qs_wR S155 23 a0z (some q148)) q160 9 80) 24 a0z (some q160)) q167 8 80) 26 a0z (some q167))) (q := q174) (ci := 8) (n := 80)
  have fK180 := qs_nAM (S := (qs_wR (qs_nA (qs_wR (qs_nA (qs_wR S155 23 a0z (some q148)) q160 9 80) 24 a0z (some q160)) q167 8 80) 26 a0z (some q167))) (q := q174) (ci := 8) (n := 80)
  refine qr_putRF (C := RX7) (T := TX7) (N := 35) (ci := 7) hx hb hts in7 tyX7 tyX7_ok nmX7 hown hG hL177 fK178 (by decide) rfl 28 (by decide) rfl (hts (.fieldLink RX7 74 "QuayMeshModel" "log" "[I") (List.mem_of_getElem? (i := 27) rfl)) (fun _ h9 => h9) rfl hin9 rfl (x := some q174) rfl (tyX7_ok 28 (by decide)) rfl rfl dX7_init_194 (fun H locs hG => ?_)
  obtain ⟨S181, eS181⟩ : ∃ z : qs_S, z = qs_wR (qs_nA (qs_wR (qs_nA (qs_wR (qs_nA (qs_wR S155 23 a0z (some q148)) q160 9 80) 24 a0z (some q160)) q167 8 80) 26 a0z (some q167)) q174 8 80) 28 a0z (some q174) := ⟨_, rfl⟩
  have h := h S181 eS181
  rw [← eS181] at hG
  have hL182 : a0z ∈ qs_L S181 := by rw [eS181]; exact hL177
  have fK183 : qs_K S181 a0z = 7 := by rw [eS181]; exact fK178
  refine lv_aload_n hx hb dX7_init_197 rfl (lv_at hl 0 rfl) ?_
  refine lv_bipush (v := (8 : Int32)) hx hb dX7_init_198 (by decide +kernel) ?_
  obtain ⟨⟨hs185c, hs185s⟩, h⟩ := h
  refine qr_newI hx hb (hts (.arrayClass .int) (List.mem_of_getElem? (i := 4) rfl)) hG (by decide) (by decide) (by decide) (Nat.le_trans hs185c hmR) (Nat.le_trans hs185s hsR) dX7_init_200 (fun q184 H hq186 hq186t hG => ?_)
  have hkc := hs185c
  have hks := hs185s
  have h := h q184 hq186 hq186t
  have hL187 := qs_nAL (S := S181) (q := q184) (ci := 8) (n := 8) hL182
  have fK188 := qs_nAK (S := S181) (q := q184) (ci := 8) (n := 8) hq186 hL182 fK183
  have hL189 := qs_nAN (S := S181) (q := q184) (ci := 8) (n := 8)
  have fK190 := qs_nAM (S := S181) (q := q184) (ci := 8) (n := 8)
  refine qr_putRF (C := RX7) (T := TX7) (N := 35) (ci := 7) hx hb hts in7 tyX7 tyX7_ok nmX7 hown hG hL187 fK188 (by decide) rfl 29 (by decide) rfl (hts (.fieldLink RX7 77 "QuayMeshModel" "many" "[I") (List.mem_of_getElem? (i := 28) rfl)) (fun _ h9 => h9) rfl hin9 rfl (x := some q184) rfl (tyX7_ok 29 (by decide)) rfl rfl dX7_init_202 (fun H locs hG => ?_)
  refine lv_aload_n hx hb dX7_init_205 rfl (lv_at hl 0 rfl) ?_
  refine lv_sipush (v := (640 : Int32)) hx hb dX7_init_206 (by decide +kernel) ?_
  obtain ⟨⟨hs192c, hs192s⟩, h⟩ := h
  refine qr_newI hx hb (hts (.arrayClass .int) (List.mem_of_getElem? (i := 4) rfl)) hG (by decide) (by decide) (by decide) (Nat.le_trans hs192c hmR) (Nat.le_trans hs192s hsR) dX7_init_209 (fun q191 H hq193 hq193t hG => ?_)
  have hkc := hs192c
  have hks := hs192s
  have h := h q191 hq193 hq193t
  have hL194 := qs_nAL (S := (qs_wR (qs_nA S181 q184 8 8) 29 a0z (some q184))) (q := q191) (ci := 8) (n := 640) hL187
  have fK195 := qs_nAK (S := (qs_wR (qs_nA S181 q184 8 8) 29 a0z (some q184))) (q := q191) (ci := 8) (n := 640) hq193 hL187 fK188
  have hL196 := qs_nAN (S := (qs_wR (qs_nA S181 q184 8 8) 29 a0z (some q184))) (q := q191) (ci := 8) (n := 640)
  have fK197 := qs_nAM (S := (qs_wR (qs_nA S181 q184 8 8) 29 a0z (some q184))) (q := q191) (ci := 8) (n := 640)
  refine qr_putRF (C := RX7) (T := TX7) (N := 35) (ci := 7) hx hb hts in7 tyX7 tyX7_ok nmX7 hown hG hL194 fK195 (by decide) rfl 30 (by decide) rfl (hts (.fieldLink RX7 80 "QuayMeshModel" "queue" "[I") (List.mem_of_getElem? (i := 29) rfl)) (fun _ h9 => h9) rfl hin9 rfl (x := some q191) rfl (tyX7_ok 30 (by decide)) rfl rfl dX7_init_211 (fun H locs hG => ?_)
  refine lv_aload_n hx hb dX7_init_214 rfl (lv_at hl 0 rfl) ?_
  refine lv_bipush (v := (8 : Int32)) hx hb dX7_init_215 (by decide +kernel) ?_
  obtain ⟨⟨hs199c, hs199s⟩, h⟩ := h
  refine qr_newI hx hb (hts (.arrayClass .int) (List.mem_of_getElem? (i := 4) rfl)) hG (by decide) (by decide) (by decide) (Nat.le_trans hs199c hmR) (Nat.le_trans hs199s hsR) dX7_init_217 (fun q198 H hq200 hq200t hG => ?_)
  have hkc := hs199c
  have hks := hs199s
  have h := h q198 hq200 hq200t
  have hL201 := qs_nAL (S := (qs_wR (qs_nA (qs_wR (qs_nA S181 q184 8 8) 29 a0z (some q184)) q191 8 640) 30 a0z (some q191))) (q := q198) (ci := 8) (n := 8) hL194
  have fK202 := qs_nAK (S := (qs_wR (qs_nA (qs_wR (qs_nA S181 q184 8 8) 29 a0z (some q184)) q191 8 640) 30 a0z (some q191))) (q := q198) (ci := 8) (n := 8) hq200 hL194 fK195
  have hL203 := qs_nAN (S := (qs_wR (qs_nA (qs_wR (qs_nA S181 q184 8 8) 29 a0z (some q184)) q191 8 640) 30 a0z (some q191))) (q := q198) (ci := 8) (n := 8)
  have fK204 := qs_nAM (S := (qs_wR (qs_nA (qs_wR (qs_nA S181 q184 8 8) 29 a0z (some q184)) q191 8 640) 30 a0z (some q191))) (q := q198) (ci := 8) (n := 8)
  refine qr_putRF (C := RX7) (T := TX7) (N := 35) (ci := 7) hx hb hts in7 tyX7 tyX7_ok nmX7 hown hG hL201 fK202 (by decide) rfl 31 (by decide) rfl (hts (.fieldLink RX7 83 "QuayMeshModel" "lossDue" "[I") (List.mem_of_getElem? (i := 30) rfl)) (fun _ h9 => h9) rfl hin9 rfl (x := some q198) rfl (tyX7_ok 31 (by decide)) rfl rfl dX7_init_219 (fun H locs hG => ?_)
  refine lv_aload_n hx hb dX7_init_222 rfl (lv_at hl 0 rfl) ?_
  refine lv_bipush (v := (8 : Int32)) hx hb dX7_init_223 (by decide +kernel) ?_
  obtain ⟨⟨hs206c, hs206s⟩, h⟩ := h
  refine qr_newI hx hb (hts (.arrayClass .int) (List.mem_of_getElem? (i := 4) rfl)) hG (by decide) (by decide) (by decide) (Nat.le_trans hs206c hmR) (Nat.le_trans hs206s hsR) dX7_init_225 (fun q205 H hq207 hq207t hG => ?_)
  have hkc := hs206c
  have hks := hs206s
  have h := h q205 hq207 hq207t
  have hL208 := qs_nAL (S := (qs_wR (qs_nA (qs_wR (qs_nA (qs_wR (qs_nA S181 q184 8 8) 29 a0z (some q184)) q191 8 640) 30 a0z (some q191)) q198 8 8) 31 a0z (some q198))) (q := q205) (ci := 8) (n := 8) hL201
  have fK209 := qs_nAK (S := (qs_wR (qs_nA (qs_wR (qs_nA (qs_wR (qs_nA S181 q184 8 8) 29 a0z (some q184)) q191 8 640) 30 a0z (some q191)) q198 8 8) 31 a0z (some q198))) (q := q205) (ci := 8) (n := 8) hq207 hL201 fK202
  have hL210 := qs_nAN (S := (qs_wR (qs_nA (qs_wR (qs_nA (qs_wR (qs_nA S181 q184 8 8) 29 a0z (some q184)) q191 8 640) 30 a0z (some q191)) q198 8 8) 31 a0z (some q198))) (q := q205) (ci := 8) (n := 8)
  have fK211 := qs_nAM (S := (qs_wR (qs_nA (qs_wR (qs_nA (qs_wR (qs_nA S181 q184 8 8) 29 a0z (some q184)) q191 8 640) 30 a0z (some q191)) q198 8 8) 31 a0z (some q198))) (q := q205) (ci := 8) (n := 8)
  obtain ⟨S212, eS212⟩ : ∃ z : qs_S, z = qs_nA (qs_wR (qs_nA (qs_wR (qs_nA (qs_wR (qs_nA S181 q184 8 8) 29 a0z (some q184)) q191 8 640) 30 a0z (some q191)) q198 8 8) 31 a0z (some q198)) q205 8 8 := ⟨_, rfl⟩
  have h := h S212 eS212
  rw [← eS212] at hG
  have hL213 : a0z ∈ qs_L S212 := by rw [eS212]; exact hL208
  have fK214 : qs_K S212 a0z = 7 := by rw [eS212]; exact fK209
  have hL215 : q205 ∈ qs_L S212 := by rw [eS212]; exact hL210
  have fK216 : qs_K S212 q205 = 8 := by rw [eS212]; exact fK211
  refine qr_putRF (C := RX7) (T := TX7) (N := 35) (ci := 7) hx hb hts in7 tyX7 tyX7_ok nmX7 hown hG hL213 fK214 (by decide) rfl 32 (by decide) rfl (hts (.fieldLink RX7 86 "QuayMeshModel" "ackLossDue" "[I") (List.mem_of_getElem? (i := 31) rfl)) (fun _ h9 => h9) rfl hin9 rfl (x := some q205) rfl (tyX7_ok 32 (by decide)) rfl rfl dX7_init_227 (fun H locs hG => ?_)
  refine lv_aload_n hx hb dX7_init_230 rfl (lv_at hl 0 rfl) ?_
  refine lv_bipush (v := (8 : Int32)) hx hb dX7_init_231 (by decide +kernel) ?_
  obtain ⟨⟨hs218c, hs218s⟩, h⟩ := h
  refine qr_newI hx hb (hts (.arrayClass .int) (List.mem_of_getElem? (i := 4) rfl)) hG (by decide) (by decide) (by decide) (Nat.le_trans hs218c hmR) (Nat.le_trans hs218s hsR) dX7_init_233 (fun q217 H hq219 hq219t hG => ?_)
  have hkc := hs218c
  have hks := hs218s
  have h := h q217 hq219 hq219t
  have hL220 := qs_nAL (S := (qs_wR S212 32 a0z (some q205))) (q := q217) (ci := 8) (n := 8) hL213
  have fK221 := qs_nAK (S := (qs_wR S212 32 a0z (some q205))) (q := q217) (ci := 8) (n := 8) hq219 hL213 fK214
  have hL222 := qs_nAN (S := (qs_wR S212 32 a0z (some q205))) (q := q217) (ci := 8) (n := 8)
  have fK223 := qs_nAM (S := (qs_wR S212 32 a0z (some q205))) (q := q217) (ci := 8) (n := 8)
  refine lv_dup hx hb dX7_init_235 rfl ?_
  refine lv_iconst (v := (0 : Int32)) hx hb dX7_init_236 (by decide +kernel) ?_
  refine lv_iconst (v := (-1 : Int32)) hx hb dX7_init_237 (by decide +kernel) ?_
  obtain ⟨hi224, h⟩ := h
  refine qr_iast hx hb hG hL222 fK223 hi224 dX7_init_238 (fun H locs hG => ?_)
  refine lv_dup hx hb dX7_init_239 rfl ?_
  refine lv_iconst (v := (1 : Int32)) hx hb dX7_init_240 (by decide +kernel) ?_
  refine lv_iconst (v := (-1 : Int32)) hx hb dX7_init_241 (by decide +kernel) ?_
  obtain ⟨hi225, h⟩ := h
  refine qr_iast hx hb hG hL222 fK223 hi225 dX7_init_242 (fun H locs hG => ?_)
  refine lv_dup hx hb dX7_init_243 rfl ?_
  refine lv_iconst (v := (2 : Int32)) hx hb dX7_init_244 (by decide +kernel) ?_
  refine lv_iconst (v := (-1 : Int32)) hx hb dX7_init_245 (by decide +kernel) ?_
  obtain ⟨hi226, h⟩ := h
  refine qr_iast hx hb hG hL222 fK223 hi226 dX7_init_246 (fun H locs hG => ?_)
  obtain ⟨S227, eS227⟩ : ∃ z : qs_S, z = qs_wA (qs_wA (qs_wA (qs_nA (qs_wR S212 32 a0z (some q205)) q217 8 8) q217 (0 : Int32).toNatClampNeg (-1 : Int32)) q217 (1 : Int32).toNatClampNeg (-1 : Int32)) q217 (2 : Int32).toNatClampNeg (-1 : Int32) := ⟨_, rfl⟩
  have h := h S227 eS227
  rw [← eS227] at hG
  have hL228 : a0z ∈ qs_L S227 := by rw [eS227]; exact hL220
  have fK229 : qs_K S227 a0z = 7 := by rw [eS227]; exact fK221
  have hL230 : q217 ∈ qs_L S227 := by rw [eS227]; exact hL222
  have fK231 : qs_K S227 q217 = 8 := by rw [eS227]; exact fK223
  refine lv_dup hx hb dX7_init_247 rfl ?_
  refine lv_iconst (v := (3 : Int32)) hx hb dX7_init_248 (by decide +kernel) ?_
  refine lv_iconst (v := (-1 : Int32)) hx hb dX7_init_249 (by decide +kernel) ?_
  obtain ⟨hi232, h⟩ := h
  refine qr_iast hx hb hG hL230 fK231 hi232 dX7_init_250 (fun H locs hG => ?_)
  refine lv_dup hx hb dX7_init_251 rfl ?_
  refine lv_iconst (v := (4 : Int32)) hx hb dX7_init_252 (by decide +kernel) ?_
  refine lv_iconst (v := (-1 : Int32)) hx hb dX7_init_253 (by decide +kernel) ?_
  obtain ⟨hi233, h⟩ := h
  refine qr_iast hx hb hG hL230 fK231 hi233 dX7_init_254 (fun H locs hG => ?_)
  refine lv_dup hx hb dX7_init_255 rfl ?_
  refine lv_iconst (v := (5 : Int32)) hx hb dX7_init_256 (by decide +kernel) ?_
  refine lv_iconst (v := (-1 : Int32)) hx hb dX7_init_257 (by decide +kernel) ?_
  obtain ⟨hi234, h⟩ := h
  refine qr_iast hx hb hG hL230 fK231 hi234 dX7_init_258 (fun H locs hG => ?_)
  obtain ⟨S235, eS235⟩ : ∃ z : qs_S, z = qs_wA (qs_wA (qs_wA S227 q217 (3 : Int32).toNatClampNeg (-1 : Int32)) q217 (4 : Int32).toNatClampNeg (-1 : Int32)) q217 (5 : Int32).toNatClampNeg (-1 : Int32) := ⟨_, rfl⟩
  have h := h S235 eS235
  rw [← eS235] at hG
  have hL236 : a0z ∈ qs_L S235 := by rw [eS235]; exact hL228
  have fK237 : qs_K S235 a0z = 7 := by rw [eS235]; exact fK229
  have hL238 : q217 ∈ qs_L S235 := by rw [eS235]; exact hL230
  have fK239 : qs_K S235 q217 = 8 := by rw [eS235]; exact fK231
  refine lv_dup hx hb dX7_init_259 rfl ?_
  refine lv_bipush (v := (6 : Int32)) hx hb dX7_init_260 (by decide +kernel) ?_
  refine lv_iconst (v := (-1 : Int32)) hx hb dX7_init_262 (by decide +kernel) ?_
  obtain ⟨hi240, h⟩ := h
  refine qr_iast hx hb hG hL238 fK239 hi240 dX7_init_263 (fun H locs hG => ?_)
  refine lv_dup hx hb dX7_init_264 rfl ?_
  refine lv_bipush (v := (7 : Int32)) hx hb dX7_init_265 (by decide +kernel) ?_
  refine lv_iconst (v := (-1 : Int32)) hx hb dX7_init_267 (by decide +kernel) ?_
  obtain ⟨hi241, h⟩ := h
  refine qr_iast hx hb hG hL238 fK239 hi241 dX7_init_268 (fun H locs hG => ?_)
  refine qr_putRF (C := RX7) (T := TX7) (N := 35) (ci := 7) hx hb hts in7 tyX7 tyX7_ok nmX7 hown hG hL236 fK237 (by decide) rfl 33 (by decide) rfl (hts (.fieldLink RX7 89 "QuayMeshModel" "lastHeard" "[I") (List.mem_of_getElem? (i := 32) rfl)) (fun _ h9 => h9) rfl hin9 rfl (x := some q217) rfl (tyX7_ok 33 (by decide)) rfl rfl dX7_init_269 (fun H locs hG => ?_)
  refine lv_aload_n hx hb dX7_init_272 rfl (lv_at hl 0 rfl) ?_
  refine lv_bipush (v := (8 : Int32)) hx hb dX7_init_273 (by decide +kernel) ?_
  obtain ⟨⟨hs243c, hs243s⟩, h⟩ := h
  refine qr_newI hx hb (hts (.arrayClass .int) (List.mem_of_getElem? (i := 4) rfl)) hG (by decide) (by decide) (by decide) (Nat.le_trans hs243c hmR) (Nat.le_trans hs243s hsR) dX7_init_275 (fun q242 H hq244 hq244t hG => ?_)
  have hkc := hs243c
  have hks := hs243s
  have h := h q242 hq244 hq244t
  have hL245 := qs_nAL (S := (qs_wR (qs_wA (qs_wA S235 q217 (6 : Int32).toNatClampNeg (-1 : Int32)) q217 (7 : Int32).toNatClampNeg (-1 : Int32)) 33 a0z (some q217))) (q := q242) (ci := 8) (n := 8) hL236
  have fK246 := qs_nAK (S := (qs_wR (qs_wA (qs_wA S235 q217 (6 : Int32).toNatClampNeg (-1 : Int32)) q217 (7 : Int32).toNatClampNeg (-1 : Int32)) 33 a0z (some q217))) (q := q242) (ci := 8) (n := 8) hq244 hL236 fK237
  have hL247 := qs_nAN (S := (qs_wR (qs_wA (qs_wA S235 q217 (6 : Int32).toNatClampNeg (-1 : Int32)) q217 (7 : Int32).toNatClampNeg (-1 : Int32)) 33 a0z (some q217))) (q := q242) (ci := 8) (n := 8)
  have fK248 := qs_nAM (S := (qs_wR (qs_wA (qs_wA S235 q217 (6 : Int32).toNatClampNeg (-1 : Int32)) q217 (7 : Int32).toNatClampNeg (-1 : Int32)) 33 a0z (some q217))) (q := q242) (ci := 8) (n := 8)
  refine lv_dup hx hb dX7_init_277 rfl ?_
  refine lv_iconst (v := (0 : Int32)) hx hb dX7_init_278 (by decide +kernel) ?_
  refine lv_iconst (v := (-1 : Int32)) hx hb dX7_init_279 (by decide +kernel) ?_
  obtain ⟨hi249, h⟩ := h
  refine qr_iast hx hb hG hL247 fK248 hi249 dX7_init_280 (fun H locs hG => ?_)
  obtain ⟨S250, eS250⟩ : ∃ z : qs_S, z = qs_wA (qs_nA (qs_wR (qs_wA (qs_wA S235 q217 (6 : Int32).toNatClampNeg (-1 : Int32)) q217 (7 : Int32).toNatClampNeg (-1 : Int32)) 33 a0z (some q217)) q242 8 8) q242 (0 : Int32).toNatClampNeg (-1 : Int32) := ⟨_, rfl⟩
  have h := h S250 eS250
  rw [← eS250] at hG
  have hL251 : a0z ∈ qs_L S250 := by rw [eS250]; exact hL245
  have fK252 : qs_K S250 a0z = 7 := by rw [eS250]; exact fK246
  have hL253 : q242 ∈ qs_L S250 := by rw [eS250]; exact hL247
  have fK254 : qs_K S250 q242 = 8 := by rw [eS250]; exact fK248
  refine lv_dup hx hb dX7_init_281 rfl ?_
  refine lv_iconst (v := (1 : Int32)) hx hb dX7_init_282 (by decide +kernel) ?_
  refine lv_iconst (v := (-1 : Int32)) hx hb dX7_init_283 (by decide +kernel) ?_
  obtain ⟨hi255, h⟩ := h
  refine qr_iast hx hb hG hL253 fK254 hi255 dX7_init_284 (fun H locs hG => ?_)
  refine lv_dup hx hb dX7_init_285 rfl ?_
  refine lv_iconst (v := (2 : Int32)) hx hb dX7_init_286 (by decide +kernel) ?_
  refine lv_iconst (v := (-1 : Int32)) hx hb dX7_init_287 (by decide +kernel) ?_
  obtain ⟨hi256, h⟩ := h
  refine qr_iast hx hb hG hL253 fK254 hi256 dX7_init_288 (fun H locs hG => ?_)
  refine lv_dup hx hb dX7_init_289 rfl ?_
  refine lv_iconst (v := (3 : Int32)) hx hb dX7_init_290 (by decide +kernel) ?_
  refine lv_iconst (v := (-1 : Int32)) hx hb dX7_init_291 (by decide +kernel) ?_
  obtain ⟨hi257, h⟩ := h
  refine qr_iast hx hb hG hL253 fK254 hi257 dX7_init_292 (fun H locs hG => ?_)
  obtain ⟨S258, eS258⟩ : ∃ z : qs_S, z = qs_wA (qs_wA (qs_wA S250 q242 (1 : Int32).toNatClampNeg (-1 : Int32)) q242 (2 : Int32).toNatClampNeg (-1 : Int32)) q242 (3 : Int32).toNatClampNeg (-1 : Int32) := ⟨_, rfl⟩
  have h := h S258 eS258
  rw [← eS258] at hG
  have hL259 : a0z ∈ qs_L S258 := by rw [eS258]; exact hL251
  have fK260 : qs_K S258 a0z = 7 := by rw [eS258]; exact fK252
  have hL261 : q242 ∈ qs_L S258 := by rw [eS258]; exact hL253
  have fK262 : qs_K S258 q242 = 8 := by rw [eS258]; exact fK254
  refine lv_dup hx hb dX7_init_293 rfl ?_
  refine lv_iconst (v := (4 : Int32)) hx hb dX7_init_294 (by decide +kernel) ?_
  refine lv_iconst (v := (-1 : Int32)) hx hb dX7_init_295 (by decide +kernel) ?_
  obtain ⟨hi263, h⟩ := h
  refine qr_iast hx hb hG hL261 fK262 hi263 dX7_init_296 (fun H locs hG => ?_)
  refine lv_dup hx hb dX7_init_297 rfl ?_
  refine lv_iconst (v := (5 : Int32)) hx hb dX7_init_298 (by decide +kernel) ?_
  refine lv_iconst (v := (-1 : Int32)) hx hb dX7_init_299 (by decide +kernel) ?_
  obtain ⟨hi264, h⟩ := h
  refine qr_iast hx hb hG hL261 fK262 hi264 dX7_init_300 (fun H locs hG => ?_)
  refine lv_dup hx hb dX7_init_301 rfl ?_
  refine lv_bipush (v := (6 : Int32)) hx hb dX7_init_302 (by decide +kernel) ?_
  refine lv_iconst (v := (-1 : Int32)) hx hb dX7_init_304 (by decide +kernel) ?_
  obtain ⟨hi265, h⟩ := h
  refine qr_iast hx hb hG hL261 fK262 hi265 dX7_init_305 (fun H locs hG => ?_)
  obtain ⟨S266, eS266⟩ : ∃ z : qs_S, z = qs_wA (qs_wA (qs_wA S258 q242 (4 : Int32).toNatClampNeg (-1 : Int32)) q242 (5 : Int32).toNatClampNeg (-1 : Int32)) q242 (6 : Int32).toNatClampNeg (-1 : Int32) := ⟨_, rfl⟩
  have h := h S266 eS266
  rw [← eS266] at hG
  have hL267 : a0z ∈ qs_L S266 := by rw [eS266]; exact hL259
  have fK268 : qs_K S266 a0z = 7 := by rw [eS266]; exact fK260
  have hL269 : q242 ∈ qs_L S266 := by rw [eS266]; exact hL261
  have fK270 : qs_K S266 q242 = 8 := by rw [eS266]; exact fK262
  refine lv_dup hx hb dX7_init_306 rfl ?_
  refine lv_bipush (v := (7 : Int32)) hx hb dX7_init_307 (by decide +kernel) ?_
  refine lv_iconst (v := (-1 : Int32)) hx hb dX7_init_309 (by decide +kernel) ?_
  obtain ⟨hi271, h⟩ := h
  refine qr_iast hx hb hG hL269 fK270 hi271 dX7_init_310 (fun H locs hG => ?_)
  refine qr_putRF (C := RX7) (T := TX7) (N := 35) (ci := 7) hx hb hts in7 tyX7 tyX7_ok nmX7 hown hG hL267 fK268 (by decide) rfl 34 (by decide) rfl (hts (.fieldLink RX7 92 "QuayMeshModel" "seen" "[I") (List.mem_of_getElem? (i := 33) rfl)) (fun _ h9 => h9) rfl hin9 rfl (x := some q242) rfl (tyX7_ok 34 (by decide)) rfl rfl dX7_init_311 (fun H locs hG => ?_)
  exact qe_v hx hb hr hlk hG h hkc hks dX7_init_314
def wp_X7_thrown (t0 m9 : Nat) (post : Int32 → qs_S → Prop) (SA : qs_S) (a0z : Nat) : Prop := (a0z ∈ qs_L SA ∧ qs_K SA a0z = 7) ∧ (∀ v3 : Int32, v3 = qs_I SA 0 a0z → post v3 SA)
set_option maxHeartbeats 4000000 in
set_option maxRecDepth 100000 in
theorem c_X7_thrown (l : Launch) (g : qs_G) (sz : Nat) (SA : qs_S) (a0z : Nat) {post : Int32 → qs_S → Prop} (h : wp_X7_thrown g.2.2.2.2.2.2.1 g.2.2.2.2.2.2.2 post SA a0z) : Met l yX7_thrown wsX7_thrown ({ frames := 0, cells := 0, slots := 0, locals := 0 } : Room) (qs_Pc g sz SA [.ref a0z]) (qs_Qi g (qs_F g SA sz) post) 0 0 (qs_F g SA sz) := by
  refine Met.ofW (cc := cX7_thrown) (maxL := 1) (ret := (some .int)) (by decide +kernel) rfl ?_
  intro p e s m args below meth c s₁ B hml hv
  obtain ⟨rfl, hsz, hG⟩ := qs_Gd.start hv
  subst hsz
  have hx := B.exec
  have hb := B.bytes
  have hr := B.returns
  have hts := atoms_spec (ws := wsX7_thrown) B.pre
  have hown : s.vm.findClass RX7 = some m.cls := findClass_of_methodNamed B.named
  have hlk := B.notSynchronized
  have in7 : ∀ w ∈ u_ws RX7 TX7 35, w ∈ wsX7_thrown := fun w h => List.mem_cons_of_mem _ (List.mem_append_right _ (h))
  have hl := lv_entry ([.ref a0z]) (n := 1) (Nat.le_of_ble_eq_true rfl)
  rw [lg_entry_eq]
  generalize (lg_sl ([.ref a0z]) ++ List.replicate (1 - (lg_sl ([.ref a0z])).length) Slot.unset).toArray = ls at hl ⊢
  have hl : lv_has ls 1 [(0, .ref a0z)] := hl
  unfold wp_X7_thrown at h
  refine lv_aload_n hx hb dX7_thrown_0 rfl (lv_at hl 0 rfl) ?_
  obtain ⟨⟨hL1, fK2⟩, h⟩ := h
  refine qr_get (C := RX7) (T := TX7) (N := 35) (ci := 7) hx hb hts in7 hown hG hL1 fK2 (by decide) rfl 0 (by decide) rfl (hts (.fieldLink RX7 95 "QuayMeshModel" "thrown" "I") (List.mem_of_getElem? (i := 1) rfl)) (fun _ h9 => h9) (v := .int (qs_I SA 0 a0z)) rfl dX7_thrown_1 ?_
  refine lv_topi (fun v3 ev3 => ?_)
  have h := h v3 ev3
  exact qe_i hx hb hr hlk hG h (Nat.le_refl _) (Nat.le_refl _) dX7_thrown_4
def wp_X7_in_b15 (t0 m9 : Nat) (post : Int32 → qs_S → Prop) (S : qs_S) (s0 : Int32) : Prop := (s0 = 0 ∨ s0 = 1) ∧ post s0 S
def wp_X7_in_b14 (t0 m9 : Nat) (post : Int32 → qs_S → Prop) (S : qs_S) : Prop := wp_X7_in_b15 t0 m9 post S (0 : Int32)
def wp_X7_in (t0 m9 : Nat) (post : Int32 → qs_S → Prop) (SA : qs_S) (x0z : Int32) (x1z : Int32) (x2z : Int32) : Prop := (x0z < x1z → (wp_X7_in_b14 t0 m9 post SA)) ∧ (¬ x0z < x1z → ((x2z < x0z → (wp_X7_in_b14 t0 m9 post SA)) ∧ (¬ x2z < x0z → (wp_X7_in_b15 t0 m9 post SA (1 : Int32)))))
set_option maxHeartbeats 4000000 in
set_option maxRecDepth 100000 in
theorem c_X7_in (l : Launch) (g : qs_G) (sz : Nat) (SA : qs_S) (x0z : Int32) (x1z : Int32) (x2z : Int32) {post : Int32 → qs_S → Prop} (h : wp_X7_in g.2.2.2.2.2.2.1 g.2.2.2.2.2.2.2 post SA x0z x1z x2z) : Met l yX7_in wsX7_in ({ frames := 0, cells := 0, slots := 0, locals := 0 } : Room) (qs_Pc g sz SA [.int x0z, .int x1z, .int x2z]) (qs_Qi g (qs_F g SA sz) post) 0 0 (qs_F g SA sz) := by
  refine Met.ofW (cc := cX7_in) (maxL := 3) (ret := (some .boolean)) (by decide +kernel) rfl ?_
  intro p e s m args below meth c s₁ B hml hv
  obtain ⟨rfl, hsz, hG⟩ := qs_Gd.start hv
  subst hsz
  have hx := B.exec
  have hb := B.bytes
  have hr := B.returns
  have hts := atoms_spec (ws := wsX7_in) B.pre
  have hown : s.vm.findClass RX7 = some m.cls := findClass_of_methodNamed B.named
  have hlk := B.notSynchronized
  have b15 : ∀ (S : qs_S) (s0 : Int32) (H : Heap) (locs : List Loc) (ls : Array Slot), wp_X7_in_b15 g.2.2.2.2.2.2.1 g.2.2.2.2.2.2.2 post S s0 → qs_Gd g (qs_F g SA s.heap.size) s S H locs → lv_has ls 3 [] → W p l e (headSpec wsX7_in ({ frames := 0, cells := 0, slots := 0, locals := 0 } : Room)).room s m (([.int x0z, .int x1z, .int x2z] : List Value)).toArray below meth c H locs 0 0 (MQ below (qs_Qi g (qs_F g SA s.heap.size) post) (([.int x0z, .int x1z, .int x2z] : List Value)).toArray s 0 0 (qs_F g SA s.heap.size)) (F0 m 15 ls [.int s0]) := by
    intro S s0 H locs ls h hG hl
    unfold wp_X7_in_b15 at h
    obtain ⟨z1, h⟩ := h
    exact qe_z hx hb hr hlk z1 hG h (Nat.le_refl _) (Nat.le_refl _) dX7_in_15
  have b14 : ∀ (S : qs_S) (H : Heap) (locs : List Loc) (ls : Array Slot), wp_X7_in_b14 g.2.2.2.2.2.2.1 g.2.2.2.2.2.2.2 post S → qs_Gd g (qs_F g SA s.heap.size) s S H locs → lv_has ls 3 [] → W p l e (headSpec wsX7_in ({ frames := 0, cells := 0, slots := 0, locals := 0 } : Room)).room s m (([.int x0z, .int x1z, .int x2z] : List Value)).toArray below meth c H locs 0 0 (MQ below (qs_Qi g (qs_F g SA s.heap.size) post) (([.int x0z, .int x1z, .int x2z] : List Value)).toArray s 0 0 (qs_F g SA s.heap.size)) (F0 m 14 ls []) := by
    intro S H locs ls h hG hl
    unfold wp_X7_in_b14 at h
    refine lv_iconst (v := (0 : Int32)) hx hb dX7_in_14 (by decide +kernel) ?_
    exact b15 S (0 : Int32) _ _ ls h hG (lv_sub hl [] rfl)
  have hl := lv_entry ([.int x0z, .int x1z, .int x2z]) (n := 3) (Nat.le_of_ble_eq_true rfl)
  rw [lg_entry_eq]
  generalize (lg_sl ([.int x0z, .int x1z, .int x2z]) ++ List.replicate (3 - (lg_sl ([.int x0z, .int x1z, .int x2z])).length) Slot.unset).toArray = ls at hl ⊢
  have hl : lv_has ls 3 [(0, .int x0z), (1, .int x1z), (2, .int x2z)] := hl
  unfold wp_X7_in at h
  refine lv_iload_n hx hb dX7_in_0 rfl (lv_at hl 0 rfl) ?_
  refine lv_iload_n hx hb dX7_in_1 rfl (lv_at hl 1 rfl) ?_
  refine lv_icmp_lt (tgt := 14) hx hb dX7_in_2 (by decide) (fun c2 => ?_) (fun c2 => ?_)
  · have h := h.1 c2
    exact b14 SA _ _ ls h hG (lv_sub hl [] rfl)
  · have h := h.2 c2
    refine lv_iload_n hx hb dX7_in_5 rfl (lv_at hl 0 rfl) ?_
    refine lv_iload_n hx hb dX7_in_6 rfl (lv_at hl 2 rfl) ?_
    refine lv_icmp_gt (tgt := 14) hx hb dX7_in_7 (by decide) (fun c3 => ?_) (fun c3 => ?_)
    · have h := h.1 c3
      exact b14 SA _ _ ls h hG (lv_sub hl [] rfl)
    · have h := h.2 c3
      refine lv_iconst (v := (1 : Int32)) hx hb dX7_in_10 (by decide +kernel) ?_
      refine lv_goto (tgt := 15) hx hb dX7_in_11 (by decide) ?_
      exact b15 SA (1 : Int32) _ _ ls h hG (lv_sub hl [] rfl)
def wp_X7_isPlace (t0 m9 : Nat) (post : Int32 → qs_S → Prop) (SA : qs_S) (x0z : Int32) : Prop := wp_X7_in t0 m9 (fun (v4 : Int32) (S3 : qs_S) => (v4 = 0 ∨ v4 = 1) ∧ post v4 S3) SA x0z (0 : Int32) (15 : Int32)
set_option maxHeartbeats 4000000 in
set_option maxRecDepth 100000 in
theorem c_X7_isPlace (l : Launch) (g : qs_G) (sz : Nat) (SA : qs_S) (x0z : Int32) {post : Int32 → qs_S → Prop} (h : wp_X7_isPlace g.2.2.2.2.2.2.1 g.2.2.2.2.2.2.2 post SA x0z) : Met l yX7_isPlace wsX7_isPlace ({ frames := 1, cells := 0, slots := 0, locals := 22 } : Room) (qs_Pc g sz SA [.int x0z]) (qs_Qi g (qs_F g SA sz) post) 0 0 (qs_F g SA sz) := by
  refine Met.ofW (cc := cX7_isPlace) (maxL := 1) (ret := (some .boolean)) (by decide +kernel) rfl ?_
  intro p e s m args below meth c s₁ B hml hv
  obtain ⟨rfl, hsz, hG⟩ := qs_Gd.start hv
  subst hsz
  have hx := B.exec
  have hb := B.bytes
  have hr := B.returns
  have hts := atoms_spec (ws := wsX7_isPlace) B.pre
  have hown : s.vm.findClass RX7 = some m.cls := findClass_of_methodNamed B.named
  have hlk := B.notSynchronized
  have hl := lv_entry ([.int x0z]) (n := 1) (Nat.le_of_ble_eq_true rfl)
  rw [lg_entry_eq]
  generalize (lg_sl ([.int x0z]) ++ List.replicate (1 - (lg_sl ([.int x0z])).length) Slot.unset).toArray = ls at hl ⊢
  have hl : lv_has ls 1 [(0, .int x0z)] := hl
  unfold wp_X7_isPlace at h
  refine lv_iload_n hx hb dX7_isPlace_0 rfl (lv_at hl 0 rfl) ?_
  refine lv_iconst (v := (0 : Int32)) hx hb dX7_isPlace_1 (by decide +kernel) ?_
  refine lv_bipush (v := (15 : Int32)) hx hb dX7_isPlace_2 (by decide +kernel) ?_
  refine qc_i hG (va_runS (As := [.int x0z, .int (0 : Int32), .int (15 : Int32)]) (rest := []) ⟨hx, hb, hml, hown, hts⟩ (c_X7_in l g _ SA x0z (0 : Int32) (15 : Int32) h) (va_cwS 3 hts gX7_isPlace_X7_in rfl rfl rfl (by decide +kernel) ⟨(Nat.le_of_ble_eq_true rfl), (Nat.le_of_ble_eq_true rfl)⟩) ⟨qs_Pc.blind _ _ _ _, hG.pre _⟩ rfl rfl hl.1 rfl (lv_room (Nat.le_of_ble_eq_true rfl)) dX7_isPlace_4 ⟨Nat.zero_le _, Nat.zero_le _⟩) (fun v4 S3 H locs h hG => ?_)
  obtain ⟨z5, h⟩ := h
  exact qe_z hx hb hr hlk z5 hG h (Nat.le_refl _) (Nat.le_refl _) dX7_isPlace_7
def wp_X7_isCrane (t0 m9 : Nat) (post : Int32 → qs_S → Prop) (SA : qs_S) (x0z : Int32) : Prop := wp_X7_in t0 m9 (fun (v4 : Int32) (S3 : qs_S) => (v4 = 0 ∨ v4 = 1) ∧ post v4 S3) SA x0z (0 : Int32) (3 : Int32)
set_option maxHeartbeats 4000000 in
set_option maxRecDepth 100000 in
theorem c_X7_isCrane (l : Launch) (g : qs_G) (sz : Nat) (SA : qs_S) (x0z : Int32) {post : Int32 → qs_S → Prop} (h : wp_X7_isCrane g.2.2.2.2.2.2.1 g.2.2.2.2.2.2.2 post SA x0z) : Met l yX7_isCrane wsX7_isCrane ({ frames := 1, cells := 0, slots := 0, locals := 22 } : Room) (qs_Pc g sz SA [.int x0z]) (qs_Qi g (qs_F g SA sz) post) 0 0 (qs_F g SA sz) := by
  refine Met.ofW (cc := cX7_isCrane) (maxL := 1) (ret := (some .boolean)) (by decide +kernel) rfl ?_
  intro p e s m args below meth c s₁ B hml hv
  obtain ⟨rfl, hsz, hG⟩ := qs_Gd.start hv
  subst hsz
  have hx := B.exec
  have hb := B.bytes
  have hr := B.returns
  have hts := atoms_spec (ws := wsX7_isCrane) B.pre
  have hown : s.vm.findClass RX7 = some m.cls := findClass_of_methodNamed B.named
  have hlk := B.notSynchronized
  have hl := lv_entry ([.int x0z]) (n := 1) (Nat.le_of_ble_eq_true rfl)
  rw [lg_entry_eq]
  generalize (lg_sl ([.int x0z]) ++ List.replicate (1 - (lg_sl ([.int x0z])).length) Slot.unset).toArray = ls at hl ⊢
  have hl : lv_has ls 1 [(0, .int x0z)] := hl
  unfold wp_X7_isCrane at h
  refine lv_iload_n hx hb dX7_isCrane_0 rfl (lv_at hl 0 rfl) ?_
  refine lv_iconst (v := (0 : Int32)) hx hb dX7_isCrane_1 (by decide +kernel) ?_
  refine lv_iconst (v := (3 : Int32)) hx hb dX7_isCrane_2 (by decide +kernel) ?_
  refine qc_i hG (va_runS (As := [.int x0z, .int (0 : Int32), .int (3 : Int32)]) (rest := []) ⟨hx, hb, hml, hown, hts⟩ (c_X7_in l g _ SA x0z (0 : Int32) (3 : Int32) h) (va_cwS 3 hts gX7_isCrane_X7_in rfl rfl rfl (by decide +kernel) ⟨(Nat.le_of_ble_eq_true rfl), (Nat.le_of_ble_eq_true rfl)⟩) ⟨qs_Pc.blind _ _ _ _, hG.pre _⟩ rfl rfl hl.1 rfl (lv_room (Nat.le_of_ble_eq_true rfl)) dX7_isCrane_3 ⟨Nat.zero_le _, Nat.zero_le _⟩) (fun v4 S3 H locs h hG => ?_)
  obtain ⟨z5, h⟩ := h
  exact qe_z hx hb hr hlk z5 hG h (Nat.le_refl _) (Nat.le_refl _) dX7_isCrane_6
def wp_X7_isWorker (t0 m9 : Nat) (post : Int32 → qs_S → Prop) (SA : qs_S) (x0z : Int32) : Prop := wp_X7_in t0 m9 (fun (v4 : Int32) (S3 : qs_S) => (v4 = 0 ∨ v4 = 1) ∧ post v4 S3) SA x0z (0 : Int32) (7 : Int32)
set_option maxHeartbeats 4000000 in
set_option maxRecDepth 100000 in
theorem c_X7_isWorker (l : Launch) (g : qs_G) (sz : Nat) (SA : qs_S) (x0z : Int32) {post : Int32 → qs_S → Prop} (h : wp_X7_isWorker g.2.2.2.2.2.2.1 g.2.2.2.2.2.2.2 post SA x0z) : Met l yX7_isWorker wsX7_isWorker ({ frames := 1, cells := 0, slots := 0, locals := 22 } : Room) (qs_Pc g sz SA [.int x0z]) (qs_Qi g (qs_F g SA sz) post) 0 0 (qs_F g SA sz) := by
  refine Met.ofW (cc := cX7_isWorker) (maxL := 1) (ret := (some .boolean)) (by decide +kernel) rfl ?_
  intro p e s m args below meth c s₁ B hml hv
  obtain ⟨rfl, hsz, hG⟩ := qs_Gd.start hv
  subst hsz
  have hx := B.exec
  have hb := B.bytes
  have hr := B.returns
  have hts := atoms_spec (ws := wsX7_isWorker) B.pre
  have hown : s.vm.findClass RX7 = some m.cls := findClass_of_methodNamed B.named
  have hlk := B.notSynchronized
  have hl := lv_entry ([.int x0z]) (n := 1) (Nat.le_of_ble_eq_true rfl)
  rw [lg_entry_eq]
  generalize (lg_sl ([.int x0z]) ++ List.replicate (1 - (lg_sl ([.int x0z])).length) Slot.unset).toArray = ls at hl ⊢
  have hl : lv_has ls 1 [(0, .int x0z)] := hl
  unfold wp_X7_isWorker at h
  refine lv_iload_n hx hb dX7_isWorker_0 rfl (lv_at hl 0 rfl) ?_
  refine lv_iconst (v := (0 : Int32)) hx hb dX7_isWorker_1 (by decide +kernel) ?_
  refine lv_bipush (v := (7 : Int32)) hx hb dX7_isWorker_2 (by decide +kernel) ?_
  refine qc_i hG (va_runS (As := [.int x0z, .int (0 : Int32), .int (7 : Int32)]) (rest := []) ⟨hx, hb, hml, hown, hts⟩ (c_X7_in l g _ SA x0z (0 : Int32) (7 : Int32) h) (va_cwS 3 hts gX7_isWorker_X7_in rfl rfl rfl (by decide +kernel) ⟨(Nat.le_of_ble_eq_true rfl), (Nat.le_of_ble_eq_true rfl)⟩) ⟨qs_Pc.blind _ _ _ _, hG.pre _⟩ rfl rfl hl.1 rfl (lv_room (Nat.le_of_ble_eq_true rfl)) dX7_isWorker_4 ⟨Nat.zero_le _, Nat.zero_le _⟩) (fun v4 S3 H locs h hG => ?_)
  obtain ⟨z5, h⟩ := h
  exact qe_z hx hb hr hlk z5 hG h (Nat.le_refl _) (Nat.le_refl _) dX7_isWorker_7
def wp_X7_isShip_b28 (t0 m9 : Nat) (post : Int32 → qs_S → Prop) (S : qs_S) (s0 : Int32) : Prop := (s0 = 0 ∨ s0 = 1) ∧ post s0 S
def wp_X7_isShip_b27 (t0 m9 : Nat) (post : Int32 → qs_S → Prop) (S : qs_S) : Prop := wp_X7_isShip_b28 t0 m9 post S (0 : Int32)
def wp_X7_isShip (t0 m9 : Nat) (post : Int32 → qs_S → Prop) (SA : qs_S) (a0z : Nat) (x1z : Int32) : Prop := (a0z ∈ qs_L SA ∧ qs_K SA a0z = 7) ∧ (∀ v4 : Int32, v4 = qs_I SA 2 a0z → ∀ v5 : Int32, v5 = v4 - (1 : Int32) → wp_X7_in t0 m9 (fun (v9 : Int32) (S8 : qs_S) => (v9 = 0 → (wp_X7_isShip_b27 t0 m9 post S8)) ∧ (¬ v9 = 0 → ((a0z ∈ qs_L S8 ∧ qs_K S8 a0z = 7) ∧ (∃ q13 : Nat, qs_R S8 5 a0z = some q13 ∧ ((q13 ∈ qs_L S8 ∧ qs_K S8 q13 = 9) ∧ (vp_in x1z (qs_Z S8 q13) ∧ (∀ v17 : Int32, v17 = qs_A S8 q13 x1z.toNatClampNeg → (¬ v17 = 0 → (wp_X7_isShip_b27 t0 m9 post S8)) ∧ (v17 = 0 → (wp_X7_isShip_b28 t0 m9 post S8 (1 : Int32)))))))))) SA x1z (0 : Int32) v5)
set_option maxHeartbeats 4000000 in
set_option maxRecDepth 100000 in
theorem c_X7_isShip (l : Launch) (g : qs_G) (sz : Nat) (SA : qs_S) (a0z : Nat) (x1z : Int32) {post : Int32 → qs_S → Prop} (h : wp_X7_isShip g.2.2.2.2.2.2.1 g.2.2.2.2.2.2.2 post SA a0z x1z) : Met l yX7_isShip wsX7_isShip ({ frames := 1, cells := 0, slots := 0, locals := 22 } : Room) (qs_Pc g sz SA [.ref a0z, .int x1z]) (qs_Qi g (qs_F g SA sz) post) 0 0 (qs_F g SA sz) := by
  refine Met.ofW (cc := cX7_isShip) (maxL := 2) (ret := (some .boolean)) (by decide +kernel) rfl ?_
  intro p e s m args below meth c s₁ B hml hv
  obtain ⟨rfl, hsz, hG⟩ := qs_Gd.start hv
  subst hsz
  have hx := B.exec
  have hb := B.bytes
  have hr := B.returns
  have hts := atoms_spec (ws := wsX7_isShip) B.pre
  have hown : s.vm.findClass RX7 = some m.cls := findClass_of_methodNamed B.named
  have hlk := B.notSynchronized
  have in7 : ∀ w ∈ u_ws RX7 TX7 35, w ∈ wsX7_isShip := fun w h => List.mem_cons_of_mem _ (List.mem_append_right _ (h))
  have b28 : ∀ (S : qs_S) (s0 : Int32) (H : Heap) (locs : List Loc) (ls : Array Slot), wp_X7_isShip_b28 g.2.2.2.2.2.2.1 g.2.2.2.2.2.2.2 post S s0 → qs_Gd g (qs_F g SA s.heap.size) s S H locs → lv_has ls 2 [] → W p l e (headSpec wsX7_isShip ({ frames := 1, cells := 0, slots := 0, locals := 22 } : Room)).room s m (([.ref a0z, .int x1z] : List Value)).toArray below meth c H locs 0 0 (MQ below (qs_Qi g (qs_F g SA s.heap.size) post) (([.ref a0z, .int x1z] : List Value)).toArray s 0 0 (qs_F g SA s.heap.size)) (F0 m 28 ls [.int s0]) := by
    intro S s0 H locs ls h hG hl
    unfold wp_X7_isShip_b28 at h
    obtain ⟨z1, h⟩ := h
    exact qe_z hx hb hr hlk z1 hG h (Nat.le_refl _) (Nat.le_refl _) dX7_isShip_28
  have b27 : ∀ (S : qs_S) (H : Heap) (locs : List Loc) (ls : Array Slot), wp_X7_isShip_b27 g.2.2.2.2.2.2.1 g.2.2.2.2.2.2.2 post S → qs_Gd g (qs_F g SA s.heap.size) s S H locs → lv_has ls 2 [] → W p l e (headSpec wsX7_isShip ({ frames := 1, cells := 0, slots := 0, locals := 22 } : Room)).room s m (([.ref a0z, .int x1z] : List Value)).toArray below meth c H locs 0 0 (MQ below (qs_Qi g (qs_F g SA s.heap.size) post) (([.ref a0z, .int x1z] : List Value)).toArray s 0 0 (qs_F g SA s.heap.size)) (F0 m 27 ls []) := by
    intro S H locs ls h hG hl
    unfold wp_X7_isShip_b27 at h
    refine lv_iconst (v := (0 : Int32)) hx hb dX7_isShip_27 (by decide +kernel) ?_
    exact b28 S (0 : Int32) _ _ ls h hG (lv_sub hl [] rfl)
  have hl := lv_entry ([.ref a0z, .int x1z]) (n := 2) (Nat.le_of_ble_eq_true rfl)
  rw [lg_entry_eq]
  generalize (lg_sl ([.ref a0z, .int x1z]) ++ List.replicate (2 - (lg_sl ([.ref a0z, .int x1z])).length) Slot.unset).toArray = ls at hl ⊢
  have hl : lv_has ls 2 [(0, .ref a0z), (1, .int x1z)] := hl
  unfold wp_X7_isShip at h
  refine lv_iload_n hx hb dX7_isShip_0 rfl (lv_at hl 1 rfl) ?_
  refine lv_iconst (v := (0 : Int32)) hx hb dX7_isShip_1 (by decide +kernel) ?_
  refine lv_aload_n hx hb dX7_isShip_2 rfl (lv_at hl 0 rfl) ?_
  obtain ⟨⟨hL2, fK3⟩, h⟩ := h
  refine qr_get (C := RX7) (T := TX7) (N := 35) (ci := 7) hx hb hts in7 hown hG hL2 fK3 (by decide) rfl 2 (by decide) rfl (hts (.fieldLink RX7 103 "QuayMeshModel" "ships" "I") (List.mem_of_getElem? (i := 1) rfl)) (fun _ h9 => h9) (v := .int (qs_I SA 2 a0z)) rfl dX7_isShip_3 ?_
  refine lv_topi (fun v4 ev4 => ?_)
  have h := h v4 ev4
  refine lv_iconst (v := (1 : Int32)) hx hb dX7_isShip_6 (by decide +kernel) ?_
  refine lv_isub hx hb dX7_isShip_7 ?_
  refine lv_topi (fun v5 ev5 => ?_)
  have h := h v5 ev5
  refine qc_i hG (va_runS (As := [.int x1z, .int (0 : Int32), .int v5]) (rest := []) ⟨hx, hb, hml, hown, hts⟩ (c_X7_in l g _ SA x1z (0 : Int32) v5 h) (va_cwS 3 hts gX7_isShip_X7_in rfl rfl rfl (by decide +kernel) ⟨(Nat.le_of_ble_eq_true rfl), (Nat.le_of_ble_eq_true rfl)⟩) ⟨qs_Pc.blind _ _ _ _, hG.pre _⟩ rfl rfl hl.1 rfl (lv_room (Nat.le_of_ble_eq_true rfl)) dX7_isShip_8 ⟨Nat.zero_le _, Nat.zero_le _⟩) (fun v9 S8 H locs h hG => ?_)
  refine lv_if_eq (tgt := 27) hx hb dX7_isShip_11 (by decide) (fun c10 => ?_) (fun c10 => ?_)
  · have h := h.1 c10
    exact b27 S8 _ _ ls h hG (lv_sub hl [] rfl)
  · have h := h.2 c10
    refine lv_aload_n hx hb dX7_isShip_14 rfl (lv_at hl 0 rfl) ?_
    obtain ⟨⟨hL11, fK12⟩, h⟩ := h
    obtain ⟨q13, eq13, h⟩ := h
    refine qr_get (C := RX7) (T := TX7) (N := 35) (ci := 7) hx hb hts in7 hown hG hL11 fK12 (by decide) rfl 5 (by decide) rfl (hts (.fieldLink RX7 16 "QuayMeshModel" "hasLeft" "[Z") (List.mem_of_getElem? (i := 2) rfl)) (fun _ h9 => h9) (v := .ref q13) (qs_rf eq13) dX7_isShip_15 ?_
    refine lv_iload_n hx hb dX7_isShip_18 rfl (lv_at hl 1 rfl) ?_
    obtain ⟨⟨hL14, fK15⟩, h⟩ := h
    obtain ⟨hi16, h⟩ := h
    refine qr_zald hx hb hG hL14 fK15 hi16 rfl dX7_isShip_19 ?_
    refine lv_topi (fun v17 ev17 => ?_)
    have h := h v17 ev17
    refine lv_if_ne (tgt := 27) hx hb dX7_isShip_20 (by decide) (fun c18 => ?_) (fun c18 => ?_)
    · have h := h.1 c18
      exact b27 S8 _ _ ls h hG (lv_sub hl [] rfl)
    · have h := h.2 c18
      refine lv_iconst (v := (1 : Int32)) hx hb dX7_isShip_23 (by decide +kernel) ?_
      refine lv_goto (tgt := 28) hx hb dX7_isShip_24 (by decide) ?_
      exact b28 S8 (1 : Int32) _ _ ls h hG (lv_sub hl [] rfl)
def wp_X7_isBox (t0 m9 : Nat) (post : Int32 → qs_S → Prop) (SA : qs_S) (a0z : Nat) (x1z : Int32) : Prop := (a0z ∈ qs_L SA ∧ qs_K SA a0z = 7) ∧ (∀ v3 : Int32, v3 = qs_I SA 6 a0z → ∀ v4 : Int32, v4 = v3 - (1 : Int32) → wp_X7_in t0 m9 (fun (v8 : Int32) (S7 : qs_S) => (v8 = 0 ∨ v8 = 1) ∧ post v8 S7) SA x1z (0 : Int32) v4)
set_option maxHeartbeats 4000000 in
set_option maxRecDepth 100000 in
theorem c_X7_isBox (l : Launch) (g : qs_G) (sz : Nat) (SA : qs_S) (a0z : Nat) (x1z : Int32) {post : Int32 → qs_S → Prop} (h : wp_X7_isBox g.2.2.2.2.2.2.1 g.2.2.2.2.2.2.2 post SA a0z x1z) : Met l yX7_isBox wsX7_isBox ({ frames := 1, cells := 0, slots := 0, locals := 22 } : Room) (qs_Pc g sz SA [.ref a0z, .int x1z]) (qs_Qi g (qs_F g SA sz) post) 0 0 (qs_F g SA sz) := by
  refine Met.ofW (cc := cX7_isBox) (maxL := 2) (ret := (some .boolean)) (by decide +kernel) rfl ?_
  intro p e s m args below meth c s₁ B hml hv
  obtain ⟨rfl, hsz, hG⟩ := qs_Gd.start hv
  subst hsz
  have hx := B.exec
  have hb := B.bytes
  have hr := B.returns
  have hts := atoms_spec (ws := wsX7_isBox) B.pre
  have hown : s.vm.findClass RX7 = some m.cls := findClass_of_methodNamed B.named
  have hlk := B.notSynchronized
  have in7 : ∀ w ∈ u_ws RX7 TX7 35, w ∈ wsX7_isBox := fun w h => List.mem_cons_of_mem _ (List.mem_append_right _ (h))
  have hl := lv_entry ([.ref a0z, .int x1z]) (n := 2) (Nat.le_of_ble_eq_true rfl)
  rw [lg_entry_eq]
  generalize (lg_sl ([.ref a0z, .int x1z]) ++ List.replicate (2 - (lg_sl ([.ref a0z, .int x1z])).length) Slot.unset).toArray = ls at hl ⊢
  have hl : lv_has ls 2 [(0, .ref a0z), (1, .int x1z)] := hl
  unfold wp_X7_isBox at h
  refine lv_iload_n hx hb dX7_isBox_0 rfl (lv_at hl 1 rfl) ?_
  refine lv_iconst (v := (0 : Int32)) hx hb dX7_isBox_1 (by decide +kernel) ?_
  refine lv_aload_n hx hb dX7_isBox_2 rfl (lv_at hl 0 rfl) ?_
  obtain ⟨⟨hL1, fK2⟩, h⟩ := h
  refine qr_get (C := RX7) (T := TX7) (N := 35) (ci := 7) hx hb hts in7 hown hG hL1 fK2 (by decide) rfl 6 (by decide) rfl (hts (.fieldLink RX7 106 "QuayMeshModel" "boxes" "I") (List.mem_of_getElem? (i := 1) rfl)) (fun _ h9 => h9) (v := .int (qs_I SA 6 a0z)) rfl dX7_isBox_3 ?_
  refine lv_topi (fun v3 ev3 => ?_)
  have h := h v3 ev3
  refine lv_iconst (v := (1 : Int32)) hx hb dX7_isBox_6 (by decide +kernel) ?_
  refine lv_isub hx hb dX7_isBox_7 ?_
  refine lv_topi (fun v4 ev4 => ?_)
  have h := h v4 ev4
  refine qc_i hG (va_runS (As := [.int x1z, .int (0 : Int32), .int v4]) (rest := []) ⟨hx, hb, hml, hown, hts⟩ (c_X7_in l g _ SA x1z (0 : Int32) v4 h) (va_cwS 3 hts gX7_isBox_X7_in rfl rfl rfl (by decide +kernel) ⟨(Nat.le_of_ble_eq_true rfl), (Nat.le_of_ble_eq_true rfl)⟩) ⟨qs_Pc.blind _ _ _ _, hG.pre _⟩ rfl rfl hl.1 rfl (lv_room (Nat.le_of_ble_eq_true rfl)) dX7_isBox_8 ⟨Nat.zero_le _, Nat.zero_le _⟩) (fun v8 S7 H locs h hG => ?_)
  obtain ⟨z9, h⟩ := h
  exact qe_z hx hb hr hlk z9 hG h (Nat.le_refl _) (Nat.le_refl _) dX7_isBox_11
def wp_X7_isFree_b65 (t0 m9 : Nat) (post : Int32 → qs_S → Prop) (K5 : qs_S → Nat → Int32 → Int32 → Int32 → Int32 → Prop) (S : qs_S) (a0 : Nat) (x1 : Int32) (x2 : Int32) (x4 : Int32) (s0 : Int32) : Prop := ∀ v1 : Int32, v1 = x4 + 1 → K5 S a0 x1 x2 s0 v1
def wp_X7_isFree_b60 (t0 m9 : Nat) (post : Int32 → qs_S → Prop) (K5 : qs_S → Nat → Int32 → Int32 → Int32 → Int32 → Prop) (S : qs_S) (a0 : Nat) (x1 : Int32) (x2 : Int32) (x4 : Int32) : Prop := wp_X7_isFree_b65 t0 m9 post K5 S a0 x1 x2 x4 (1 : Int32)
def wp_X7_isFree_b64 (t0 m9 : Nat) (post : Int32 → qs_S → Prop) (K5 : qs_S → Nat → Int32 → Int32 → Int32 → Int32 → Prop) (S : qs_S) (a0 : Nat) (x1 : Int32) (x2 : Int32) (x4 : Int32) : Prop := wp_X7_isFree_b65 t0 m9 post K5 S a0 x1 x2 x4 (0 : Int32)
def wp_X7_isFree_c5 (t0 m9 : Nat) (post : Int32 → qs_S → Prop) (K5 : qs_S → Nat → Int32 → Int32 → Int32 → Int32 → Prop) (S : qs_S) (a0 : Nat) (x1 : Int32) (x2 : Int32) (x3 : Int32) (x4 : Int32) : Prop := (a0 ∈ qs_L S ∧ qs_K S a0 = 7) ∧ (∀ v4 : Int32, v4 = qs_I S 2 a0 → (v4 ≤ x4 → ((x3 = 0 ∨ x3 = 1) ∧ post x3 S)) ∧ (¬ v4 ≤ x4 → ((x3 = 0 → (wp_X7_isFree_b64 t0 m9 post K5 S a0 x1 x2 x4)) ∧ (¬ x3 = 0 → (∃ q8 : Nat, qs_R S 5 a0 = some q8 ∧ ((q8 ∈ qs_L S ∧ qs_K S q8 = 9) ∧ (vp_in x4 (qs_Z S q8) ∧ (∀ v12 : Int32, v12 = qs_A S q8 x4.toNatClampNeg → (¬ v12 = 0 → (wp_X7_isFree_b60 t0 m9 post K5 S a0 x1 x2 x4)) ∧ (v12 = 0 → (∃ q14 : Nat, qs_R S 3 a0 = some q14 ∧ ((q14 ∈ qs_L S ∧ qs_K S q14 = 8) ∧ (vp_in x4 (qs_Z S q14) ∧ (∀ v18 : Int32, v18 = qs_A S q14 x4.toNatClampNeg → ∀ v19 : Int32, v19 = x1 + x2 → (v19 ≤ v18 → (wp_X7_isFree_b60 t0 m9 post K5 S a0 x1 x2 x4)) ∧ (¬ v19 ≤ v18 → (∃ q21 : Nat, qs_R S 3 a0 = some q21 ∧ ((q21 ∈ qs_L S ∧ qs_K S q21 = 8) ∧ (vp_in x4 (qs_Z S q21) ∧ (∀ v25 : Int32, v25 = qs_A S q21 x4.toNatClampNeg → ∃ q26 : Nat, qs_R S 4 a0 = some q26 ∧ ((q26 ∈ qs_L S ∧ qs_K S q26 = 8) ∧ (vp_in x4 (qs_Z S q26) ∧ (∀ v30 : Int32, v30 = qs_A S q26 x4.toNatClampNeg → ∀ v31 : Int32, v31 = v25 + v30 → (x1 < v31 → (wp_X7_isFree_b64 t0 m9 post K5 S a0 x1 x2 x4)) ∧ (¬ x1 < v31 → (wp_X7_isFree_b60 t0 m9 post K5 S a0 x1 x2 x4)))))))))))))))))))))))
def wp_X7_isFree_b5 (t0 m9 : Nat) (post : Int32 → qs_S → Prop) : Nat → qs_S → Nat → Int32 → Int32 → Int32 → Int32 → Prop
  | 0 => fun _ _ _ _ _ _ => False
  | n9 + 1 => wp_X7_isFree_c5 t0 m9 post (wp_X7_isFree_b5 t0 m9 post n9)
def wp_X7_isFree (t0 m9 : Nat) (post : Int32 → qs_S → Prop) (SA : qs_S) (a0z : Nat) (x1z : Int32) (x2z : Int32) : Prop := ∃ n33 : Nat, wp_X7_isFree_b5 t0 m9 post n33 SA a0z x1z x2z (1 : Int32) (0 : Int32)
set_option maxHeartbeats 4000000 in
set_option maxRecDepth 100000 in
theorem c_X7_isFree (l : Launch) (g : qs_G) (sz : Nat) (SA : qs_S) (a0z : Nat) (x1z : Int32) (x2z : Int32) {post : Int32 → qs_S → Prop} (h : wp_X7_isFree g.2.2.2.2.2.2.1 g.2.2.2.2.2.2.2 post SA a0z x1z x2z) : Met l yX7_isFree wsX7_isFree ({ frames := 0, cells := 0, slots := 0, locals := 0 } : Room) (qs_Pc g sz SA [.ref a0z, .int x1z, .int x2z]) (qs_Qi g (qs_F g SA sz) post) 0 0 (qs_F g SA sz) := by
  refine Met.ofW (cc := cX7_isFree) (maxL := 5) (ret := (some .boolean)) (by decide +kernel) rfl ?_
  intro p e s m args below meth c s₁ B hml hv
  obtain ⟨rfl, hsz, hG⟩ := qs_Gd.start hv
  subst hsz
  have hx := B.exec
  have hb := B.bytes
  have hr := B.returns
  have hts := atoms_spec (ws := wsX7_isFree) B.pre
  have hown : s.vm.findClass RX7 = some m.cls := findClass_of_methodNamed B.named
  have hlk := B.notSynchronized
  have in7 : ∀ w ∈ u_ws RX7 TX7 35, w ∈ wsX7_isFree := fun w h => List.mem_cons_of_mem _ (List.mem_append_right _ (h))
  have b65 : ∀ (K5 : qs_S → Nat → Int32 → Int32 → Int32 → Int32 → Prop), (∀ (S : qs_S) (a0 : Nat) (x1 : Int32) (x2 : Int32) (x3 : Int32) (x4 : Int32) (H : Heap) (locs : List Loc) (ls : Array Slot), K5 S a0 x1 x2 x3 x4 → qs_Gd g (qs_F g SA s.heap.size) s S H locs → lv_has ls 5 [(0, .ref a0), (1, .int x1), (2, .int x2), (3, .int x3), (4, .int x4)] → W p l e (headSpec wsX7_isFree ({ frames := 0, cells := 0, slots := 0, locals := 0 } : Room)).room s m (([.ref a0z, .int x1z, .int x2z] : List Value)).toArray below meth c H locs 0 0 (MQ below (qs_Qi g (qs_F g SA s.heap.size) post) (([.ref a0z, .int x1z, .int x2z] : List Value)).toArray s 0 0 (qs_F g SA s.heap.size)) (F0 m 5 ls [])) → ∀ (S : qs_S) (a0 : Nat) (x1 : Int32) (x2 : Int32) (x4 : Int32) (s0 : Int32) (H : Heap) (locs : List Loc) (ls : Array Slot), wp_X7_isFree_b65 g.2.2.2.2.2.2.1 g.2.2.2.2.2.2.2 post K5 S a0 x1 x2 x4 s0 → qs_Gd g (qs_F g SA s.heap.size) s S H locs → lv_has ls 5 [(0, .ref a0), (1, .int x1), (2, .int x2), (4, .int x4)] → W p l e (headSpec wsX7_isFree ({ frames := 0, cells := 0, slots := 0, locals := 0 } : Room)).room s m (([.ref a0z, .int x1z, .int x2z] : List Value)).toArray below meth c H locs 0 0 (MQ below (qs_Qi g (qs_F g SA s.heap.size) post) (([.ref a0z, .int x1z, .int x2z] : List Value)).toArray s 0 0 (qs_F g SA s.heap.size)) (F0 m 65 ls [.int s0]) := by
    intro K5 hK5 S a0 x1 x2 x4 s0 H locs ls h hG hl
    unfold wp_X7_isFree_b65 at h
    refine lv_istore_n (lv' := [(3, .int s0), (0, .ref a0), (1, .int x1), (2, .int x2), (4, .int x4)]) hx hb dX7_isFree_65 rfl hl (by decide) rfl (fun ls hl => ?_)
    obtain ⟨v1, ev1⟩ : ∃ y : Int32, y = x4 + 1 := ⟨_, rfl⟩
    have h := h v1 ev1
    refine lv_iinc (v := v1) (lv' := [(4, .int v1), (3, .int s0), (0, .ref a0), (1, .int x1), (2, .int x2)]) hx hb dX7_isFree_66 hl (k := 4) rfl (by rw [ev1]; rfl) (by decide) rfl (fun ls hl => ?_)
    refine lv_goto (tgt := 5) hx hb dX7_isFree_69 (by decide) ?_
    exact hK5 S a0 x1 x2 s0 v1 _ _ ls h hG (lv_sub hl [2, 3, 4, 1, 0] rfl)
  have b60 : ∀ (K5 : qs_S → Nat → Int32 → Int32 → Int32 → Int32 → Prop), (∀ (S : qs_S) (a0 : Nat) (x1 : Int32) (x2 : Int32) (x3 : Int32) (x4 : Int32) (H : Heap) (locs : List Loc) (ls : Array Slot), K5 S a0 x1 x2 x3 x4 → qs_Gd g (qs_F g SA s.heap.size) s S H locs → lv_has ls 5 [(0, .ref a0), (1, .int x1), (2, .int x2), (3, .int x3), (4, .int x4)] → W p l e (headSpec wsX7_isFree ({ frames := 0, cells := 0, slots := 0, locals := 0 } : Room)).room s m (([.ref a0z, .int x1z, .int x2z] : List Value)).toArray below meth c H locs 0 0 (MQ below (qs_Qi g (qs_F g SA s.heap.size) post) (([.ref a0z, .int x1z, .int x2z] : List Value)).toArray s 0 0 (qs_F g SA s.heap.size)) (F0 m 5 ls [])) → ∀ (S : qs_S) (a0 : Nat) (x1 : Int32) (x2 : Int32) (x4 : Int32) (H : Heap) (locs : List Loc) (ls : Array Slot), wp_X7_isFree_b60 g.2.2.2.2.2.2.1 g.2.2.2.2.2.2.2 post K5 S a0 x1 x2 x4 → qs_Gd g (qs_F g SA s.heap.size) s S H locs → lv_has ls 5 [(0, .ref a0), (1, .int x1), (2, .int x2), (4, .int x4)] → W p l e (headSpec wsX7_isFree ({ frames := 0, cells := 0, slots := 0, locals := 0 } : Room)).room s m (([.ref a0z, .int x1z, .int x2z] : List Value)).toArray below meth c H locs 0 0 (MQ below (qs_Qi g (qs_F g SA s.heap.size) post) (([.ref a0z, .int x1z, .int x2z] : List Value)).toArray s 0 0 (qs_F g SA s.heap.size)) (F0 m 60 ls []) := by
    intro K5 hK5 S a0 x1 x2 x4 H locs ls h hG hl
    unfold wp_X7_isFree_b60 at h
    refine lv_iconst (v := (1 : Int32)) hx hb dX7_isFree_60 (by decide +kernel) ?_
    refine lv_goto (tgt := 65) hx hb dX7_isFree_61 (by decide) ?_
    exact b65 K5 hK5 S a0 x1 x2 x4 (1 : Int32) _ _ ls h hG (lv_sub hl [0, 1, 2, 3] rfl)
  have b64 : ∀ (K5 : qs_S → Nat → Int32 → Int32 → Int32 → Int32 → Prop), (∀ (S : qs_S) (a0 : Nat) (x1 : Int32) (x2 : Int32) (x3 : Int32) (x4 : Int32) (H : Heap) (locs : List Loc) (ls : Array Slot), K5 S a0 x1 x2 x3 x4 → qs_Gd g (qs_F g SA s.heap.size) s S H locs → lv_has ls 5 [(0, .ref a0), (1, .int x1), (2, .int x2), (3, .int x3), (4, .int x4)] → W p l e (headSpec wsX7_isFree ({ frames := 0, cells := 0, slots := 0, locals := 0 } : Room)).room s m (([.ref a0z, .int x1z, .int x2z] : List Value)).toArray below meth c H locs 0 0 (MQ below (qs_Qi g (qs_F g SA s.heap.size) post) (([.ref a0z, .int x1z, .int x2z] : List Value)).toArray s 0 0 (qs_F g SA s.heap.size)) (F0 m 5 ls [])) → ∀ (S : qs_S) (a0 : Nat) (x1 : Int32) (x2 : Int32) (x4 : Int32) (H : Heap) (locs : List Loc) (ls : Array Slot), wp_X7_isFree_b64 g.2.2.2.2.2.2.1 g.2.2.2.2.2.2.2 post K5 S a0 x1 x2 x4 → qs_Gd g (qs_F g SA s.heap.size) s S H locs → lv_has ls 5 [(0, .ref a0), (1, .int x1), (2, .int x2), (4, .int x4)] → W p l e (headSpec wsX7_isFree ({ frames := 0, cells := 0, slots := 0, locals := 0 } : Room)).room s m (([.ref a0z, .int x1z, .int x2z] : List Value)).toArray below meth c H locs 0 0 (MQ below (qs_Qi g (qs_F g SA s.heap.size) post) (([.ref a0z, .int x1z, .int x2z] : List Value)).toArray s 0 0 (qs_F g SA s.heap.size)) (F0 m 64 ls []) := by
    intro K5 hK5 S a0 x1 x2 x4 H locs ls h hG hl
    unfold wp_X7_isFree_b64 at h
    refine lv_iconst (v := (0 : Int32)) hx hb dX7_isFree_64 (by decide +kernel) ?_
    exact b65 K5 hK5 S a0 x1 x2 x4 (0 : Int32) _ _ ls h hG (lv_sub hl [0, 1, 2, 3] rfl)
  have c5 : ∀ (K5 : qs_S → Nat → Int32 → Int32 → Int32 → Int32 → Prop), (∀ (S : qs_S) (a0 : Nat) (x1 : Int32) (x2 : Int32) (x3 : Int32) (x4 : Int32) (H : Heap) (locs : List Loc) (ls : Array Slot), K5 S a0 x1 x2 x3 x4 → qs_Gd g (qs_F g SA s.heap.size) s S H locs → lv_has ls 5 [(0, .ref a0), (1, .int x1), (2, .int x2), (3, .int x3), (4, .int x4)] → W p l e (headSpec wsX7_isFree ({ frames := 0, cells := 0, slots := 0, locals := 0 } : Room)).room s m (([.ref a0z, .int x1z, .int x2z] : List Value)).toArray below meth c H locs 0 0 (MQ below (qs_Qi g (qs_F g SA s.heap.size) post) (([.ref a0z, .int x1z, .int x2z] : List Value)).toArray s 0 0 (qs_F g SA s.heap.size)) (F0 m 5 ls [])) → ∀ (S : qs_S) (a0 : Nat) (x1 : Int32) (x2 : Int32) (x3 : Int32) (x4 : Int32) (H : Heap) (locs : List Loc) (ls : Array Slot), wp_X7_isFree_c5 g.2.2.2.2.2.2.1 g.2.2.2.2.2.2.2 post K5 S a0 x1 x2 x3 x4 → qs_Gd g (qs_F g SA s.heap.size) s S H locs → lv_has ls 5 [(0, .ref a0), (1, .int x1), (2, .int x2), (3, .int x3), (4, .int x4)] → W p l e (headSpec wsX7_isFree ({ frames := 0, cells := 0, slots := 0, locals := 0 } : Room)).room s m (([.ref a0z, .int x1z, .int x2z] : List Value)).toArray below meth c H locs 0 0 (MQ below (qs_Qi g (qs_F g SA s.heap.size) post) (([.ref a0z, .int x1z, .int x2z] : List Value)).toArray s 0 0 (qs_F g SA s.heap.size)) (F0 m 5 ls []) := by
    intro K5 hK5 S a0 x1 x2 x3 x4 H locs ls h hG hl
    unfold wp_X7_isFree_c5 at h
    refine lv_iload hx hb dX7_isFree_5 (lv_at hl 4 rfl) ?_
    refine lv_aload_n hx hb dX7_isFree_7 rfl (lv_at hl 0 rfl) ?_
    obtain ⟨⟨hL2, fK3⟩, h⟩ := h
    refine qr_get (C := RX7) (T := TX7) (N := 35) (ci := 7) hx hb hts in7 hown hG hL2 fK3 (by decide) rfl 2 (by decide) rfl (hts (.fieldLink RX7 103 "QuayMeshModel" "ships" "I") (List.mem_of_getElem? (i := 1) rfl)) (fun _ h9 => h9) (v := .int (qs_I S 2 a0)) rfl dX7_isFree_8 ?_
    refine lv_topi (fun v4 ev4 => ?_)
    have h := h v4 ev4
    refine lv_icmp_ge (tgt := 72) hx hb dX7_isFree_11 (by decide) (fun c5 => ?_) (fun c5 => ?_)
    · have h := h.1 c5
      refine lv_iload_n hx hb dX7_isFree_72 rfl (lv_at hl 3 rfl) ?_
      obtain ⟨z6, h⟩ := h
      exact qe_z hx hb hr hlk z6 hG h (Nat.le_refl _) (Nat.le_refl _) dX7_isFree_73
    · have h := h.2 c5
      refine lv_iload_n hx hb dX7_isFree_14 rfl (lv_at hl 3 rfl) ?_
      refine lv_if_eq (tgt := 64) hx hb dX7_isFree_15 (by decide) (fun c7 => ?_) (fun c7 => ?_)
      · have h := h.1 c7
        exact b64 K5 hK5 S a0 x1 x2 x4 _ _ ls h hG (lv_sub hl [0, 1, 2, 4] rfl)
      · have h := h.2 c7
        refine lv_aload_n hx hb dX7_isFree_18 rfl (lv_at hl 0 rfl) ?_
        obtain ⟨q8, eq8, h⟩ := h
        refine qr_get (C := RX7) (T := TX7) (N := 35) (ci := 7) hx hb hts in7 hown hG hL2 fK3 (by decide) rfl 5 (by decide) rfl (hts (.fieldLink RX7 16 "QuayMeshModel" "hasLeft" "[Z") (List.mem_of_getElem? (i := 2) rfl)) (fun _ h9 => h9) (v := .ref q8) (qs_rf eq8) dX7_isFree_19 ?_
        refine lv_iload hx hb dX7_isFree_22 (lv_at hl 4 rfl) ?_
        obtain ⟨⟨hL9, fK10⟩, h⟩ := h
        obtain ⟨hi11, h⟩ := h
        refine qr_zald hx hb hG hL9 fK10 hi11 rfl dX7_isFree_24 ?_
        refine lv_topi (fun v12 ev12 => ?_)
        have h := h v12 ev12
        refine lv_if_ne (tgt := 60) hx hb dX7_isFree_25 (by decide) (fun c13 => ?_) (fun c13 => ?_)
        · have h := h.1 c13
          exact b60 K5 hK5 S a0 x1 x2 x4 _ _ ls h hG (lv_sub hl [0, 1, 2, 4] rfl)
        · have h := h.2 c13
          refine lv_aload_n hx hb dX7_isFree_28 rfl (lv_at hl 0 rfl) ?_
          obtain ⟨q14, eq14, h⟩ := h
          refine qr_get (C := RX7) (T := TX7) (N := 35) (ci := 7) hx hb hts in7 hown hG hL2 fK3 (by decide) rfl 3 (by decide) rfl (hts (.fieldLink RX7 7 "QuayMeshModel" "from" "[I") (List.mem_of_getElem? (i := 3) rfl)) (fun _ h9 => h9) (v := .ref q14) (qs_rf eq14) dX7_isFree_29 ?_
          refine lv_iload hx hb dX7_isFree_32 (lv_at hl 4 rfl) ?_
          obtain ⟨⟨hL15, fK16⟩, h⟩ := h
          obtain ⟨hi17, h⟩ := h
          refine qr_iald hx hb hG hL15 fK16 hi17 rfl dX7_isFree_34 ?_
          refine lv_topi (fun v18 ev18 => ?_)
          have h := h v18 ev18
          refine lv_iload_n hx hb dX7_isFree_35 rfl (lv_at hl 1 rfl) ?_
          refine lv_iload_n hx hb dX7_isFree_36 rfl (lv_at hl 2 rfl) ?_
          refine lv_iadd hx hb dX7_isFree_37 ?_
          refine lv_topi (fun v19 ev19 => ?_)
          have h := h v19 ev19
          refine lv_icmp_ge (tgt := 60) hx hb dX7_isFree_38 (by decide) (fun c20 => ?_) (fun c20 => ?_)
          · have h := h.1 c20
            exact b60 K5 hK5 S a0 x1 x2 x4 _ _ ls h hG (lv_sub hl [0, 1, 2, 4] rfl)
          · have h := h.2 c20
            refine lv_iload_n hx hb dX7_isFree_41 rfl (lv_at hl 1 rfl) ?_
            refine lv_aload_n hx hb dX7_isFree_42 rfl (lv_at hl 0 rfl) ?_
            obtain ⟨q21, eq21, h⟩ := h
            refine qr_get (C := RX7) (T := TX7) (N := 35) (ci := 7) hx hb hts in7 hown hG hL2 fK3 (by decide) rfl 3 (by decide) rfl (hts (.fieldLink RX7 7 "QuayMeshModel" "from" "[I") (List.mem_of_getElem? (i := 3) rfl)) (fun _ h9 => h9) (v := .ref q21) (qs_rf eq21) dX7_isFree_43 ?_
            refine lv_iload hx hb dX7_isFree_46 (lv_at hl 4 rfl) ?_
            obtain ⟨⟨hL22, fK23⟩, h⟩ := h
            obtain ⟨hi24, h⟩ := h
            refine qr_iald hx hb hG hL22 fK23 hi24 rfl dX7_isFree_48 ?_
            refine lv_topi (fun v25 ev25 => ?_)
            have h := h v25 ev25
            refine lv_aload_n hx hb dX7_isFree_49 rfl (lv_at hl 0 rfl) ?_
            obtain ⟨q26, eq26, h⟩ := h
            refine qr_get (C := RX7) (T := TX7) (N := 35) (ci := 7) hx hb hts in7 hown hG hL2 fK3 (by decide) rfl 4 (by decide) rfl (hts (.fieldLink RX7 13 "QuayMeshModel" "length" "[I") (List.mem_of_getElem? (i := 4) rfl)) (fun _ h9 => h9) (v := .ref q26) (qs_rf eq26) dX7_isFree_50 ?_
            refine lv_iload hx hb dX7_isFree_53 (lv_at hl 4 rfl) ?_
            obtain ⟨⟨hL27, fK28⟩, h⟩ := h
            obtain ⟨hi29, h⟩ := h
            refine qr_iald hx hb hG hL27 fK28 hi29 rfl dX7_isFree_55 ?_
            refine lv_topi (fun v30 ev30 => ?_)
            have h := h v30 ev30
            refine lv_iadd hx hb dX7_isFree_56 ?_
            refine lv_topi (fun v31 ev31 => ?_)
            have h := h v31 ev31
            refine lv_icmp_lt (tgt := 64) hx hb dX7_isFree_57 (by decide) (fun c32 => ?_) (fun c32 => ?_)
            · have h := h.1 c32
              exact b64 K5 hK5 S a0 x1 x2 x4 _ _ ls h hG (lv_sub hl [0, 1, 2, 4] rfl)
            · have h := h.2 c32
              exact b60 K5 hK5 S a0 x1 x2 x4 _ _ ls h hG (lv_sub hl [0, 1, 2, 4] rfl)
  have b5 : ∀ n9 : Nat, ∀ (S : qs_S) (a0 : Nat) (x1 : Int32) (x2 : Int32) (x3 : Int32) (x4 : Int32) (H : Heap) (locs : List Loc) (ls : Array Slot), wp_X7_isFree_b5 g.2.2.2.2.2.2.1 g.2.2.2.2.2.2.2 post n9 S a0 x1 x2 x3 x4 → qs_Gd g (qs_F g SA s.heap.size) s S H locs → lv_has ls 5 [(0, .ref a0), (1, .int x1), (2, .int x2), (3, .int x3), (4, .int x4)] → W p l e (headSpec wsX7_isFree ({ frames := 0, cells := 0, slots := 0, locals := 0 } : Room)).room s m (([.ref a0z, .int x1z, .int x2z] : List Value)).toArray below meth c H locs 0 0 (MQ below (qs_Qi g (qs_F g SA s.heap.size) post) (([.ref a0z, .int x1z, .int x2z] : List Value)).toArray s 0 0 (qs_F g SA s.heap.size)) (F0 m 5 ls []) := by
    intro n9
    induction n9 with
    | zero =>
      intro S a0 x1 x2 x3 x4 H locs ls h hG hl
      exact False.elim h
    | succ n9 ih => exact c5 _ ih
  have hl := lv_entry ([.ref a0z, .int x1z, .int x2z]) (n := 5) (Nat.le_of_ble_eq_true rfl)
  rw [lg_entry_eq]
  generalize (lg_sl ([.ref a0z, .int x1z, .int x2z]) ++ List.replicate (5 - (lg_sl ([.ref a0z, .int x1z, .int x2z])).length) Slot.unset).toArray = ls at hl ⊢
  have hl : lv_has ls 5 [(0, .ref a0z), (1, .int x1z), (2, .int x2z)] := hl
  unfold wp_X7_isFree at h
  refine lv_iconst (v := (1 : Int32)) hx hb dX7_isFree_0 (by decide +kernel) ?_
  refine lv_istore_n (lv' := [(3, .int (1 : Int32)), (0, .ref a0z), (1, .int x1z), (2, .int x2z)]) hx hb dX7_isFree_1 rfl hl (by decide) rfl (fun ls hl => ?_)
  refine lv_iconst (v := (0 : Int32)) hx hb dX7_isFree_2 (by decide +kernel) ?_
  refine lv_istore (lv' := [(4, .int (0 : Int32)), (3, .int (1 : Int32)), (0, .ref a0z), (1, .int x1z), (2, .int x2z)]) hx hb dX7_isFree_3 hl (by decide) rfl (fun ls hl => ?_)
  obtain ⟨n33, h⟩ := h
  exact b5 n33 SA a0z x1z x2z (1 : Int32) (0 : Int32) _ _ ls h hG (lv_sub hl [2, 3, 4, 1, 0] rfl)
def wp_X7_berth_b57 (t0 m9 : Nat) (post : Int32 → qs_S → Prop) (S : qs_S) (a0 : Nat) (x1 : Int32) (x2 : Int32) (r0 : Nat) (s1 : Int32) : Prop := (r0 ∈ qs_L S ∧ qs_K S r0 = 7) ∧ ((a0 ∈ qs_L (qs_wI S 0 r0 s1) ∧ qs_K (qs_wI S 0 r0 s1) a0 = 7) ∧ (∀ v5 : Int32, v5 = qs_I (qs_wI S 0 r0 s1) 0 a0 → (v5 ≤ 0 → (∃ q7 : Nat, qs_R (qs_wI S 0 r0 s1) 3 a0 = some q7 ∧ (∀ v8 : Int32, v8 = qs_I (qs_wI S 0 r0 s1) 2 a0 → (q7 ∈ qs_L (qs_wI S 0 r0 s1) ∧ qs_K (qs_wI S 0 r0 s1) q7 = 8) ∧ (vp_in v8 (qs_Z (qs_wI S 0 r0 s1) q7) ∧ (∃ q12 : Nat, qs_R (qs_wA (qs_wI S 0 r0 s1) q7 v8.toNatClampNeg x1) 4 a0 = some q12 ∧ (∀ v13 : Int32, v13 = qs_I (qs_wA (qs_wI S 0 r0 s1) q7 v8.toNatClampNeg x1) 2 a0 → (q12 ∈ qs_L (qs_wA (qs_wI S 0 r0 s1) q7 v8.toNatClampNeg x1) ∧ qs_K (qs_wA (qs_wI S 0 r0 s1) q7 v8.toNatClampNeg x1) q12 = 8) ∧ (vp_in v13 (qs_Z (qs_wA (qs_wI S 0 r0 s1) q7 v8.toNatClampNeg x1) q12) ∧ (∀ v17 : Int32, v17 = qs_I (qs_wA (qs_wA (qs_wI S 0 r0 s1) q7 v8.toNatClampNeg x1) q12 v13.toNatClampNeg x2) 2 a0 → ∀ v18 : Int32, v18 = v17 + (1 : Int32) → ∀ v19 : Int32, v19 = qs_I (qs_wI (qs_wA (qs_wA (qs_wI S 0 r0 s1) q7 v8.toNatClampNeg x1) q12 v13.toNatClampNeg x2) 2 a0 v18) 2 a0 → ∀ v20 : Int32, v20 = v19 - (1 : Int32) → post v20 (qs_wI (qs_wA (qs_wA (qs_wI S 0 r0 s1) q7 v8.toNatClampNeg x1) q12 v13.toNatClampNeg x2) 2 a0 v18))))))))) ∧ (¬ v5 ≤ 0 → (post (0 : Int32) (qs_wI S 0 r0 s1)))))
def wp_X7_berth_b30 (t0 m9 : Nat) (post : Int32 → qs_S → Prop) (S : qs_S) (a0 : Nat) (x1 : Int32) (x2 : Int32) (r0 : Nat) : Prop := wp_X7_berth_b57 t0 m9 post S a0 x1 x2 r0 (2 : Int32)
def wp_X7_berth_b52 (t0 m9 : Nat) (post : Int32 → qs_S → Prop) (S : qs_S) (a0 : Nat) (x1 : Int32) (x2 : Int32) (r0 : Nat) : Prop := wp_X7_berth_b57 t0 m9 post S a0 x1 x2 r0 (3 : Int32)
def wp_X7_berth (t0 m9 : Nat) (post : Int32 → qs_S → Prop) (SA : qs_S) (a0z : Nat) (x1z : Int32) (x2z : Int32) : Prop := wp_X7_isPlace t0 m9 (fun (v24 : Int32) (S23 : qs_S) => (¬ v24 = 0 → (wp_X7_in t0 m9 (fun (v29 : Int32) (S28 : qs_S) => (v29 = 0 → (wp_X7_berth_b30 t0 m9 post S28 a0z x1z x2z a0z)) ∧ (¬ v29 = 0 → (∀ v31 : Int32, v31 = x1z + x2z → (v31 ≤ (16 : Int32) → ((a0z ∈ qs_L S28 ∧ qs_K S28 a0z = 7) ∧ (wp_X7_isFree t0 m9 (fun (v38 : Int32) (S37 : qs_S) => (v38 = 0 → (wp_X7_berth_b52 t0 m9 post S37 a0z x1z x2z a0z)) ∧ (¬ v38 = 0 → ((a0z ∈ qs_L S37 ∧ qs_K S37 a0z = 7) ∧ (∀ v42 : Int32, v42 = qs_I S37 2 a0z → (¬ v42 = (10 : Int32) → (wp_X7_berth_b57 t0 m9 post S37 a0z x1z x2z a0z (0 : Int32))) ∧ (v42 = (10 : Int32) → (wp_X7_berth_b52 t0 m9 post S37 a0z x1z x2z a0z)))))) S28 a0z x1z x2z))) ∧ (¬ v31 ≤ (16 : Int32) → (wp_X7_berth_b30 t0 m9 post S28 a0z x1z x2z a0z))))) S23 x2z (1 : Int32) (8 : Int32))) ∧ (v24 = 0 → (wp_X7_berth_b57 t0 m9 post S23 a0z x1z x2z a0z (1 : Int32)))) SA x1z
set_option maxHeartbeats 4000000 in
set_option maxRecDepth 100000 in
theorem c_X7_berth (l : Launch) (g : qs_G) (sz : Nat) (SA : qs_S) (a0z : Nat) (x1z : Int32) (x2z : Int32) {post : Int32 → qs_S → Prop} (h : wp_X7_berth g.2.2.2.2.2.2.1 g.2.2.2.2.2.2.2 post SA a0z x1z x2z) : Met l yX7_berth wsX7_berth ({ frames := 2, cells := 0, slots := 0, locals := 42 } : Room) (qs_Pc g sz SA [.ref a0z, .int x1z, .int x2z]) (qs_Qi g (qs_F g SA sz) post) 0 0 (qs_F g SA sz) := by
  refine Met.ofW (cc := cX7_berth) (maxL := 3) (ret := (some .int)) (by decide +kernel) rfl ?_
  intro p e s m args below meth c s₁ B hml hv
  obtain ⟨rfl, hsz, hG⟩ := qs_Gd.start hv
  subst hsz
  have hx := B.exec
  have hb := B.bytes
  have hr := B.returns
  have hts := atoms_spec (ws := wsX7_berth) B.pre
  have hown : s.vm.findClass RX7 = some m.cls := findClass_of_methodNamed B.named
  have hlk := B.notSynchronized
  have in7 : ∀ w ∈ u_ws RX7 TX7 35, w ∈ wsX7_berth := fun w h => List.mem_cons_of_mem _ (List.mem_append_right _ (h))
  have b57 : ∀ (S : qs_S) (a0 : Nat) (x1 : Int32) (x2 : Int32) (r0 : Nat) (s1 : Int32) (H : Heap) (locs : List Loc) (ls : Array Slot), wp_X7_berth_b57 g.2.2.2.2.2.2.1 g.2.2.2.2.2.2.2 post S a0 x1 x2 r0 s1 → qs_Gd g (qs_F g SA s.heap.size) s S H locs → lv_has ls 3 [(0, .ref a0), (1, .int x1), (2, .int x2)] → W p l e (headSpec wsX7_berth ({ frames := 2, cells := 0, slots := 0, locals := 42 } : Room)).room s m (([.ref a0z, .int x1z, .int x2z] : List Value)).toArray below meth c H locs 0 0 (MQ below (qs_Qi g (qs_F g SA s.heap.size) post) (([.ref a0z, .int x1z, .int x2z] : List Value)).toArray s 0 0 (qs_F g SA s.heap.size)) (F0 m 57 ls [.int s1, .ref r0]) := by
    intro S a0 x1 x2 r0 s1 H locs ls h hG hl
    unfold wp_X7_berth_b57 at h
    obtain ⟨⟨hL1, fK2⟩, h⟩ := h
    refine qr_putI (C := RX7) (T := TX7) (N := 35) (ci := 7) hx hb hts in7 tyX7 tyX7_ok nmX7 hown hG hL1 fK2 (by decide) rfl 0 (by decide) rfl (hts (.fieldLink RX7 95 "QuayMeshModel" "thrown" "I") (List.mem_of_getElem? (i := 2) rfl)) (fun _ h9 => h9) rfl (x := s1) (tyX7_ok 0 (by decide)) rfl rfl dX7_berth_57 (fun H locs hG => ?_)
    refine lv_aload_n hx hb dX7_berth_60 rfl (lv_at hl 0 rfl) ?_
    obtain ⟨⟨hL3, fK4⟩, h⟩ := h
    refine qr_get (C := RX7) (T := TX7) (N := 35) (ci := 7) hx hb hts in7 hown hG hL3 fK4 (by decide) rfl 0 (by decide) rfl (hts (.fieldLink RX7 95 "QuayMeshModel" "thrown" "I") (List.mem_of_getElem? (i := 2) rfl)) (fun _ h9 => h9) (v := .int (qs_I (qs_wI S 0 r0 s1) 0 a0)) rfl dX7_berth_61 ?_
    refine lv_topi (fun v5 ev5 => ?_)
    have h := h v5 ev5
    refine lv_if_le (tgt := 69) hx hb dX7_berth_64 (by decide) (fun c6 => ?_) (fun c6 => ?_)
    · have h := h.1 c6
      refine lv_aload_n hx hb dX7_berth_69 rfl (lv_at hl 0 rfl) ?_
      obtain ⟨q7, eq7, h⟩ := h
      refine qr_get (C := RX7) (T := TX7) (N := 35) (ci := 7) hx hb hts in7 hown hG hL3 fK4 (by decide) rfl 3 (by decide) rfl (hts (.fieldLink RX7 7 "QuayMeshModel" "from" "[I") (List.mem_of_getElem? (i := 3) rfl)) (fun _ h9 => h9) (v := .ref q7) (qs_rf eq7) dX7_berth_70 ?_
      refine lv_aload_n hx hb dX7_berth_73 rfl (lv_at hl 0 rfl) ?_
      refine qr_get (C := RX7) (T := TX7) (N := 35) (ci := 7) hx hb hts in7 hown hG hL3 fK4 (by decide) rfl 2 (by decide) rfl (hts (.fieldLink RX7 103 "QuayMeshModel" "ships" "I") (List.mem_of_getElem? (i := 1) rfl)) (fun _ h9 => h9) (v := .int (qs_I (qs_wI S 0 r0 s1) 2 a0)) rfl dX7_berth_74 ?_
      refine lv_topi (fun v8 ev8 => ?_)
      have h := h v8 ev8
      refine lv_iload_n hx hb dX7_berth_77 rfl (lv_at hl 1 rfl) ?_
      obtain ⟨⟨hL9, fK10⟩, h⟩ := h
      obtain ⟨hi11, h⟩ := h
      refine qr_iast hx hb hG hL9 fK10 hi11 dX7_berth_78 (fun H locs hG => ?_)
      refine lv_aload_n hx hb dX7_berth_79 rfl (lv_at hl 0 rfl) ?_
      obtain ⟨q12, eq12, h⟩ := h
      refine qr_get (C := RX7) (T := TX7) (N := 35) (ci := 7) hx hb hts in7 hown hG hL3 fK4 (by decide) rfl 4 (by decide) rfl (hts (.fieldLink RX7 13 "QuayMeshModel" "length" "[I") (List.mem_of_getElem? (i := 4) rfl)) (fun _ h9 => h9) (v := .ref q12) (qs_rf eq12) dX7_berth_80 ?_
      refine lv_aload_n hx hb dX7_berth_83 rfl (lv_at hl 0 rfl) ?_
      refine qr_get (C := RX7) (T := TX7) (N := 35) (ci := 7) hx hb hts in7 hown hG hL3 fK4 (by decide) rfl 2 (by decide) rfl (hts (.fieldLink RX7 103 "QuayMeshModel" "ships" "I") (List.mem_of_getElem? (i := 1) rfl)) (fun _ h9 => h9) (v := .int (qs_I (qs_wA (qs_wI S 0 r0 s1) q7 v8.toNatClampNeg x1) 2 a0)) rfl dX7_berth_84 ?_
      refine lv_topi (fun v13 ev13 => ?_)
      have h := h v13 ev13
      refine lv_iload_n hx hb dX7_berth_87 rfl (lv_at hl 2 rfl) ?_
      obtain ⟨⟨hL14, fK15⟩, h⟩ := h
      obtain ⟨hi16, h⟩ := h
      refine qr_iast hx hb hG hL14 fK15 hi16 dX7_berth_88 (fun H locs hG => ?_)
      refine lv_aload_n hx hb dX7_berth_89 rfl (lv_at hl 0 rfl) ?_
      refine lv_dup hx hb dX7_berth_90 rfl ?_
      refine qr_get (C := RX7) (T := TX7) (N := 35) (ci := 7) hx hb hts in7 hown hG hL3 fK4 (by decide) rfl 2 (by decide) rfl (hts (.fieldLink RX7 103 "QuayMeshModel" "ships" "I") (List.mem_of_getElem? (i := 1) rfl)) (fun _ h9 => h9) (v := .int (qs_I (qs_wA (qs_wA (qs_wI S 0 r0 s1) q7 v8.toNatClampNeg x1) q12 v13.toNatClampNeg x2) 2 a0)) rfl dX7_berth_91 ?_
      refine lv_topi (fun v17 ev17 => ?_)
      have h := h v17 ev17
      refine lv_iconst (v := (1 : Int32)) hx hb dX7_berth_94 (by decide +kernel) ?_
      refine lv_iadd hx hb dX7_berth_95 ?_
      refine lv_topi (fun v18 ev18 => ?_)
      have h := h v18 ev18
      refine qr_putI (C := RX7) (T := TX7) (N := 35) (ci := 7) hx hb hts in7 tyX7 tyX7_ok nmX7 hown hG hL3 fK4 (by decide) rfl 2 (by decide) rfl (hts (.fieldLink RX7 103 "QuayMeshModel" "ships" "I") (List.mem_of_getElem? (i := 1) rfl)) (fun _ h9 => h9) rfl (x := v18) (tyX7_ok 2 (by decide)) rfl rfl dX7_berth_96 (fun H locs hG => ?_)
      refine lv_aload_n hx hb dX7_berth_99 rfl (lv_at hl 0 rfl) ?_
      refine qr_get (C := RX7) (T := TX7) (N := 35) (ci := 7) hx hb hts in7 hown hG hL3 fK4 (by decide) rfl 2 (by decide) rfl (hts (.fieldLink RX7 103 "QuayMeshModel" "ships" "I") (List.mem_of_getElem? (i := 1) rfl)) (fun _ h9 => h9) (v := .int (qs_I (qs_wI (qs_wA (qs_wA (qs_wI S 0 r0 s1) q7 v8.toNatClampNeg x1) q12 v13.toNatClampNeg x2) 2 a0 v18) 2 a0)) rfl dX7_berth_100 ?_
      refine lv_topi (fun v19 ev19 => ?_)
      have h := h v19 ev19
      refine lv_iconst (v := (1 : Int32)) hx hb dX7_berth_103 (by decide +kernel) ?_
      refine lv_isub hx hb dX7_berth_104 ?_
      refine lv_topi (fun v20 ev20 => ?_)
      have h := h v20 ev20
      exact qe_i hx hb hr hlk hG h (Nat.le_refl _) (Nat.le_refl _) dX7_berth_105
    · have h := h.2 c6
      refine lv_iconst (v := (0 : Int32)) hx hb dX7_berth_67 (by decide +kernel) ?_
      exact qe_i hx hb hr hlk hG h (Nat.le_refl _) (Nat.le_refl _) dX7_berth_68
  have b30 : ∀ (S : qs_S) (a0 : Nat) (x1 : Int32) (x2 : Int32) (r0 : Nat) (H : Heap) (locs : List Loc) (ls : Array Slot), wp_X7_berth_b30 g.2.2.2.2.2.2.1 g.2.2.2.2.2.2.2 post S a0 x1 x2 r0 → qs_Gd g (qs_F g SA s.heap.size) s S H locs → lv_has ls 3 [(0, .ref a0), (1, .int x1), (2, .int x2)] → W p l e (headSpec wsX7_berth ({ frames := 2, cells := 0, slots := 0, locals := 42 } : Room)).room s m (([.ref a0z, .int x1z, .int x2z] : List Value)).toArray below meth c H locs 0 0 (MQ below (qs_Qi g (qs_F g SA s.heap.size) post) (([.ref a0z, .int x1z, .int x2z] : List Value)).toArray s 0 0 (qs_F g SA s.heap.size)) (F0 m 30 ls [.ref r0]) := by
    intro S a0 x1 x2 r0 H locs ls h hG hl
    unfold wp_X7_berth_b30 at h
    refine lv_iconst (v := (2 : Int32)) hx hb dX7_berth_30 (by decide +kernel) ?_
    refine lv_goto (tgt := 57) hx hb dX7_berth_31 (by decide) ?_
    exact b57 S a0 x1 x2 r0 (2 : Int32) _ _ ls h hG (lv_sub hl [0, 1, 2] rfl)
  have b52 : ∀ (S : qs_S) (a0 : Nat) (x1 : Int32) (x2 : Int32) (r0 : Nat) (H : Heap) (locs : List Loc) (ls : Array Slot), wp_X7_berth_b52 g.2.2.2.2.2.2.1 g.2.2.2.2.2.2.2 post S a0 x1 x2 r0 → qs_Gd g (qs_F g SA s.heap.size) s S H locs → lv_has ls 3 [(0, .ref a0), (1, .int x1), (2, .int x2)] → W p l e (headSpec wsX7_berth ({ frames := 2, cells := 0, slots := 0, locals := 42 } : Room)).room s m (([.ref a0z, .int x1z, .int x2z] : List Value)).toArray below meth c H locs 0 0 (MQ below (qs_Qi g (qs_F g SA s.heap.size) post) (([.ref a0z, .int x1z, .int x2z] : List Value)).toArray s 0 0 (qs_F g SA s.heap.size)) (F0 m 52 ls [.ref r0]) := by
    intro S a0 x1 x2 r0 H locs ls h hG hl
    unfold wp_X7_berth_b52 at h
    refine lv_iconst (v := (3 : Int32)) hx hb dX7_berth_52 (by decide +kernel) ?_
    refine lv_goto (tgt := 57) hx hb dX7_berth_53 (by decide) ?_
    exact b57 S a0 x1 x2 r0 (3 : Int32) _ _ ls h hG (lv_sub hl [0, 1, 2] rfl)
  have hl := lv_entry ([.ref a0z, .int x1z, .int x2z]) (n := 3) (Nat.le_of_ble_eq_true rfl)
  rw [lg_entry_eq]
  generalize (lg_sl ([.ref a0z, .int x1z, .int x2z]) ++ List.replicate (3 - (lg_sl ([.ref a0z, .int x1z, .int x2z])).length) Slot.unset).toArray = ls at hl ⊢
  have hl : lv_has ls 3 [(0, .ref a0z), (1, .int x1z), (2, .int x2z)] := hl
  unfold wp_X7_berth at h
  refine lv_aload_n hx hb dX7_berth_0 rfl (lv_at hl 0 rfl) ?_
  refine lv_iload_n hx hb dX7_berth_1 rfl (lv_at hl 1 rfl) ?_
  refine qc_i hG (va_runS (As := [.int x1z]) (rest := [.ref a0z]) ⟨hx, hb, hml, hown, hts⟩ (c_X7_isPlace l g _ SA x1z h) (va_cwS 1 hts gX7_berth_X7_isPlace rfl rfl rfl (by decide +kernel) ⟨(Nat.le_of_ble_eq_true rfl), (Nat.le_of_ble_eq_true rfl)⟩) ⟨qs_Pc.blind _ _ _ _, hG.pre _⟩ rfl rfl hl.1 rfl (lv_room (Nat.le_of_ble_eq_true rfl)) dX7_berth_2 ⟨Nat.zero_le _, Nat.zero_le _⟩) (fun v24 S23 H locs h hG => ?_)
  refine lv_if_ne (tgt := 12) hx hb dX7_berth_5 (by decide) (fun c25 => ?_) (fun c25 => ?_)
  · have h := h.1 c25
    refine lv_iload_n hx hb dX7_berth_12 rfl (lv_at hl 2 rfl) ?_
    refine lv_iconst (v := (1 : Int32)) hx hb dX7_berth_13 (by decide +kernel) ?_
    refine lv_bipush (v := (8 : Int32)) hx hb dX7_berth_14 (by decide +kernel) ?_
    refine qc_i hG (va_runS (As := [.int x2z, .int (1 : Int32), .int (8 : Int32)]) (rest := [.ref a0z]) ⟨hx, hb, hml, hown, hts⟩ (c_X7_in l g _ S23 x2z (1 : Int32) (8 : Int32) h) (va_cwS 3 hts gX7_berth_X7_in rfl rfl rfl (by decide +kernel) ⟨(Nat.le_of_ble_eq_true rfl), (Nat.le_of_ble_eq_true rfl)⟩) ⟨qs_Pc.blind _ _ _ _, hG.pre _⟩ rfl rfl hl.1 rfl (lv_room (Nat.le_of_ble_eq_true rfl)) dX7_berth_16 ⟨Nat.zero_le _, Nat.zero_le _⟩) (fun v29 S28 H locs h hG => ?_)
    refine lv_if_eq (tgt := 30) hx hb dX7_berth_19 (by decide) (fun c30 => ?_) (fun c30 => ?_)
    · have h := h.1 c30
      exact b30 S28 a0z x1z x2z a0z _ _ ls h hG (lv_sub hl [0, 1, 2] rfl)
    · have h := h.2 c30
      refine lv_iload_n hx hb dX7_berth_22 rfl (lv_at hl 1 rfl) ?_
      refine lv_iload_n hx hb dX7_berth_23 rfl (lv_at hl 2 rfl) ?_
      refine lv_iadd hx hb dX7_berth_24 ?_
      refine lv_topi (fun v31 ev31 => ?_)
      have h := h v31 ev31
      refine lv_bipush (v := (16 : Int32)) hx hb dX7_berth_25 (by decide +kernel) ?_
      refine lv_icmp_le (tgt := 34) hx hb dX7_berth_27 (by decide) (fun c32 => ?_) (fun c32 => ?_)
      · have h := h.1 c32
        refine lv_aload_n hx hb dX7_berth_34 rfl (lv_at hl 0 rfl) ?_
        refine lv_iload_n hx hb dX7_berth_35 rfl (lv_at hl 1 rfl) ?_
        refine lv_iload_n hx hb dX7_berth_36 rfl (lv_at hl 2 rfl) ?_
        obtain ⟨⟨hL35, fK36⟩, h⟩ := h
        refine qc_i hG (va_runV (As := [.int x1z, .int x2z]) (rest := [.ref a0z]) ⟨hx, hb, hml, hown, hts⟩ (c_X7_isFree l g _ S28 a0z x1z x2z h) (cwV 2 hts gX7_berth_X7_isFree rfl rfl rfl (by decide +kernel) ⟨(Nat.le_of_ble_eq_true rfl), (Nat.le_of_ble_eq_true rfl)⟩) ⟨qs_Pc.blind _ _ _ _, hG.recv hL35 fK36 (by decide) rfl, hG.pre _⟩ rfl rfl hl.1 rfl (lv_room (Nat.le_of_ble_eq_true rfl)) dX7_berth_37 ⟨Nat.zero_le _, Nat.zero_le _⟩) (fun v38 S37 H locs h hG => ?_)
        refine lv_if_eq (tgt := 52) hx hb dX7_berth_40 (by decide) (fun c39 => ?_) (fun c39 => ?_)
        · have h := h.1 c39
          exact b52 S37 a0z x1z x2z a0z _ _ ls h hG (lv_sub hl [0, 1, 2] rfl)
        · have h := h.2 c39
          refine lv_aload_n hx hb dX7_berth_43 rfl (lv_at hl 0 rfl) ?_
          obtain ⟨⟨hL40, fK41⟩, h⟩ := h
          refine qr_get (C := RX7) (T := TX7) (N := 35) (ci := 7) hx hb hts in7 hown hG hL40 fK41 (by decide) rfl 2 (by decide) rfl (hts (.fieldLink RX7 103 "QuayMeshModel" "ships" "I") (List.mem_of_getElem? (i := 1) rfl)) (fun _ h9 => h9) (v := .int (qs_I S37 2 a0z)) rfl dX7_berth_44 ?_
          refine lv_topi (fun v42 ev42 => ?_)
          have h := h v42 ev42
          refine lv_bipush (v := (10 : Int32)) hx hb dX7_berth_47 (by decide +kernel) ?_
          refine lv_icmp_ne (tgt := 56) hx hb dX7_berth_49 (by decide) (fun c43 => ?_) (fun c43 => ?_)
          · have h := h.1 c43
            refine lv_iconst (v := (0 : Int32)) hx hb dX7_berth_56 (by decide +kernel) ?_
            exact b57 S37 a0z x1z x2z a0z (0 : Int32) _ _ ls h hG (lv_sub hl [0, 1, 2] rfl)
          · have h := h.2 c43
            exact b52 S37 a0z x1z x2z a0z _ _ ls h hG (lv_sub hl [0, 1, 2] rfl)
      · have h := h.2 c32
        exact b30 S28 a0z x1z x2z a0z _ _ ls h hG (lv_sub hl [0, 1, 2] rfl)
  · have h := h.2 c25
    refine lv_iconst (v := (1 : Int32)) hx hb dX7_berth_8 (by decide +kernel) ?_
    refine lv_goto (tgt := 57) hx hb dX7_berth_9 (by decide) ?_
    exact b57 S23 a0z x1z x2z a0z (1 : Int32) _ _ ls h hG (lv_sub hl [0, 1, 2] rfl)
def wp_X7_box_b74 (t0 m9 : Nat) (post : Int32 → qs_S → Prop) (S : qs_S) (a0 : Nat) (x1 : Int32) (x2 : Int32) : Prop := (a0 ∈ qs_L S ∧ qs_K S a0 = 7) ∧ (∀ v3 : Int32, v3 = qs_I S 0 a0 → (v3 ≤ 0 → (∃ q5 : Nat, qs_R S 7 a0 = some q5 ∧ (∀ v6 : Int32, v6 = qs_I S 6 a0 → (q5 ∈ qs_L S ∧ qs_K S q5 = 8) ∧ (vp_in v6 (qs_Z S q5) ∧ (∃ q10 : Nat, qs_R (qs_wA S q5 v6.toNatClampNeg x1) 8 a0 = some q10 ∧ (∀ v11 : Int32, v11 = qs_I (qs_wA S q5 v6.toNatClampNeg x1) 6 a0 → (q10 ∈ qs_L (qs_wA S q5 v6.toNatClampNeg x1) ∧ qs_K (qs_wA S q5 v6.toNatClampNeg x1) q10 = 8) ∧ (vp_in v11 (qs_Z (qs_wA S q5 v6.toNatClampNeg x1) q10) ∧ (∃ q15 : Nat, qs_R (qs_wA (qs_wA S q5 v6.toNatClampNeg x1) q10 v11.toNatClampNeg x2) 9 a0 = some q15 ∧ (∀ v16 : Int32, v16 = qs_I (qs_wA (qs_wA S q5 v6.toNatClampNeg x1) q10 v11.toNatClampNeg x2) 6 a0 → (q15 ∈ qs_L (qs_wA (qs_wA S q5 v6.toNatClampNeg x1) q10 v11.toNatClampNeg x2) ∧ qs_K (qs_wA (qs_wA S q5 v6.toNatClampNeg x1) q10 v11.toNatClampNeg x2) q15 = 8) ∧ (vp_in v16 (qs_Z (qs_wA (qs_wA S q5 v6.toNatClampNeg x1) q10 v11.toNatClampNeg x2) q15) ∧ (∃ q20 : Nat, qs_R (qs_wA (qs_wA (qs_wA S q5 v6.toNatClampNeg x1) q10 v11.toNatClampNeg x2) q15 v16.toNatClampNeg (0 : Int32)) 11 a0 = some q20 ∧ (∀ v21 : Int32, v21 = qs_I (qs_wA (qs_wA (qs_wA S q5 v6.toNatClampNeg x1) q10 v11.toNatClampNeg x2) q15 v16.toNatClampNeg (0 : Int32)) 6 a0 → (q20 ∈ qs_L (qs_wA (qs_wA (qs_wA S q5 v6.toNatClampNeg x1) q10 v11.toNatClampNeg x2) q15 v16.toNatClampNeg (0 : Int32)) ∧ qs_K (qs_wA (qs_wA (qs_wA S q5 v6.toNatClampNeg x1) q10 v11.toNatClampNeg x2) q15 v16.toNatClampNeg (0 : Int32)) q20 = 8) ∧ (vp_in v21 (qs_Z (qs_wA (qs_wA (qs_wA S q5 v6.toNatClampNeg x1) q10 v11.toNatClampNeg x2) q15 v16.toNatClampNeg (0 : Int32)) q20) ∧ (∃ q25 : Nat, qs_R (qs_wA (qs_wA (qs_wA (qs_wA S q5 v6.toNatClampNeg x1) q10 v11.toNatClampNeg x2) q15 v16.toNatClampNeg (0 : Int32)) q20 v21.toNatClampNeg (-1 : Int32)) 12 a0 = some q25 ∧ (∀ v26 : Int32, v26 = qs_I (qs_wA (qs_wA (qs_wA (qs_wA S q5 v6.toNatClampNeg x1) q10 v11.toNatClampNeg x2) q15 v16.toNatClampNeg (0 : Int32)) q20 v21.toNatClampNeg (-1 : Int32)) 6 a0 → (q25 ∈ qs_L (qs_wA (qs_wA (qs_wA (qs_wA S q5 v6.toNatClampNeg x1) q10 v11.toNatClampNeg x2) q15 v16.toNatClampNeg (0 : Int32)) q20 v21.toNatClampNeg (-1 : Int32)) ∧ qs_K (qs_wA (qs_wA (qs_wA (qs_wA S q5 v6.toNatClampNeg x1) q10 v11.toNatClampNeg x2) q15 v16.toNatClampNeg (0 : Int32)) q20 v21.toNatClampNeg (-1 : Int32)) q25 = 8) ∧ (vp_in v26 (qs_Z (qs_wA (qs_wA (qs_wA (qs_wA S q5 v6.toNatClampNeg x1) q10 v11.toNatClampNeg x2) q15 v16.toNatClampNeg (0 : Int32)) q20 v21.toNatClampNeg (-1 : Int32)) q25) ∧ (∀ S30 : qs_S, S30 = qs_wA (qs_wA (qs_wA (qs_wA (qs_wA S q5 v6.toNatClampNeg x1) q10 v11.toNatClampNeg x2) q15 v16.toNatClampNeg (0 : Int32)) q20 v21.toNatClampNeg (-1 : Int32)) q25 v26.toNatClampNeg (-1 : Int32) → ∀ v33 : Int32, v33 = qs_I S30 6 a0 → ∀ v34 : Int32, v34 = v33 + (1 : Int32) → ∀ v35 : Int32, v35 = qs_I (qs_wI S30 6 a0 v34) 6 a0 → ∀ v36 : Int32, v36 = v35 - (1 : Int32) → post v36 (qs_wI S30 6 a0 v34)))))))))))))))))) ∧ (¬ v3 ≤ 0 → (post (0 : Int32) S)))
def wp_X7_box_b71 (t0 m9 : Nat) (post : Int32 → qs_S → Prop) (S : qs_S) (a0 : Nat) (x1 : Int32) (x2 : Int32) (r0 : Nat) (s1 : Int32) : Prop := (r0 ∈ qs_L S ∧ qs_K S r0 = 7) ∧ (wp_X7_box_b74 t0 m9 post (qs_wI S 0 r0 s1) a0 x1 x2)
def wp_X7_box_b14 (t0 m9 : Nat) (post : Int32 → qs_S → Prop) (S : qs_S) (a0 : Nat) (x1 : Int32) (x2 : Int32) (r0 : Nat) (s1 : Int32) : Prop := (r0 ∈ qs_L S ∧ qs_K S r0 = 7) ∧ ((a0 ∈ qs_L (qs_wI S 0 r0 s1) ∧ qs_K (qs_wI S 0 r0 s1) a0 = 7) ∧ (∀ v43 : Int32, v43 = qs_I (qs_wI S 0 r0 s1) 0 a0 → (¬ v43 = 0 → (wp_X7_box_b74 t0 m9 post (qs_wI S 0 r0 s1) a0 x1 x2)) ∧ (v43 = 0 → (∃ q45 : Nat, qs_R (qs_wI S 0 r0 s1) 3 a0 = some q45 ∧ ((q45 ∈ qs_L (qs_wI S 0 r0 s1) ∧ qs_K (qs_wI S 0 r0 s1) q45 = 8) ∧ (vp_in x1 (qs_Z (qs_wI S 0 r0 s1) q45) ∧ (∀ v49 : Int32, v49 = qs_A (qs_wI S 0 r0 s1) q45 x1.toNatClampNeg → ∃ q50 : Nat, qs_R (qs_wI S 0 r0 s1) 3 a0 = some q50 ∧ ((q50 ∈ qs_L (qs_wI S 0 r0 s1) ∧ qs_K (qs_wI S 0 r0 s1) q50 = 8) ∧ (vp_in x1 (qs_Z (qs_wI S 0 r0 s1) q50) ∧ (∀ v54 : Int32, v54 = qs_A (qs_wI S 0 r0 s1) q50 x1.toNatClampNeg → ∃ q55 : Nat, qs_R (qs_wI S 0 r0 s1) 4 a0 = some q55 ∧ ((q55 ∈ qs_L (qs_wI S 0 r0 s1) ∧ qs_K (qs_wI S 0 r0 s1) q55 = 8) ∧ (vp_in x1 (qs_Z (qs_wI S 0 r0 s1) q55) ∧ (∀ v59 : Int32, v59 = qs_A (qs_wI S 0 r0 s1) q55 x1.toNatClampNeg → ∀ v60 : Int32, v60 = v54 + v59 → ∀ v61 : Int32, v61 = v60 - (1 : Int32) → wp_X7_in t0 m9 (fun (v65 : Int32) (S64 : qs_S) => (¬ v65 = 0 → ((a0 ∈ qs_L S64 ∧ qs_K S64 a0 = 7) ∧ (∀ v69 : Int32, v69 = qs_I S64 6 a0 → (¬ v69 = (24 : Int32) → (wp_X7_box_b71 t0 m9 post S64 a0 x1 x2 a0 (0 : Int32))) ∧ (v69 = (24 : Int32) → (wp_X7_box_b71 t0 m9 post S64 a0 x1 x2 a0 (3 : Int32)))))) ∧ (v65 = 0 → (wp_X7_box_b71 t0 m9 post S64 a0 x1 x2 a0 (2 : Int32)))) (qs_wI S 0 r0 s1) x2 v49 v61)))))))))))))
def wp_X7_box (t0 m9 : Nat) (post : Int32 → qs_S → Prop) (SA : qs_S) (a0z : Nat) (x1z : Int32) (x2z : Int32) : Prop := (a0z ∈ qs_L SA ∧ qs_K SA a0z = 7) ∧ (wp_X7_isShip t0 m9 (fun (v76 : Int32) (S75 : qs_S) => (v76 = 0 → (wp_X7_box_b14 t0 m9 post S75 a0z x1z x2z a0z (1 : Int32))) ∧ (¬ v76 = 0 → (wp_X7_box_b14 t0 m9 post S75 a0z x1z x2z a0z (0 : Int32)))) SA a0z x1z)
set_option maxHeartbeats 4000000 in
set_option maxRecDepth 100000 in
theorem c_X7_box (l : Launch) (g : qs_G) (sz : Nat) (SA : qs_S) (a0z : Nat) (x1z : Int32) (x2z : Int32) {post : Int32 → qs_S → Prop} (h : wp_X7_box g.2.2.2.2.2.2.1 g.2.2.2.2.2.2.2 post SA a0z x1z x2z) : Met l yX7_box wsX7_box ({ frames := 2, cells := 0, slots := 0, locals := 43 } : Room) (qs_Pc g sz SA [.ref a0z, .int x1z, .int x2z]) (qs_Qi g (qs_F g SA sz) post) 0 0 (qs_F g SA sz) := by
  refine Met.ofW (cc := cX7_box) (maxL := 3) (ret := (some .int)) (by decide +kernel) rfl ?_
  intro p e s m args below meth c s₁ B hml hv
  obtain ⟨rfl, hsz, hG⟩ := qs_Gd.start hv
  subst hsz
  have hx := B.exec
  have hb := B.bytes
  have hr := B.returns
  have hts := atoms_spec (ws := wsX7_box) B.pre
  have hown : s.vm.findClass RX7 = some m.cls := findClass_of_methodNamed B.named
  have hlk := B.notSynchronized
  have in7 : ∀ w ∈ u_ws RX7 TX7 35, w ∈ wsX7_box := fun w h => List.mem_cons_of_mem _ (List.mem_append_right _ (h))
  have b74 : ∀ (S : qs_S) (a0 : Nat) (x1 : Int32) (x2 : Int32) (H : Heap) (locs : List Loc) (ls : Array Slot), wp_X7_box_b74 g.2.2.2.2.2.2.1 g.2.2.2.2.2.2.2 post S a0 x1 x2 → qs_Gd g (qs_F g SA s.heap.size) s S H locs → lv_has ls 3 [(0, .ref a0), (1, .int x1), (2, .int x2)] → W p l e (headSpec wsX7_box ({ frames := 2, cells := 0, slots := 0, locals := 43 } : Room)).room s m (([.ref a0z, .int x1z, .int x2z] : List Value)).toArray below meth c H locs 0 0 (MQ below (qs_Qi g (qs_F g SA s.heap.size) post) (([.ref a0z, .int x1z, .int x2z] : List Value)).toArray s 0 0 (qs_F g SA s.heap.size)) (F0 m 74 ls []) := by
    intro S a0 x1 x2 H locs ls h hG hl
    unfold wp_X7_box_b74 at h
    refine lv_aload_n hx hb dX7_box_74 rfl (lv_at hl 0 rfl) ?_
    obtain ⟨⟨hL1, fK2⟩, h⟩ := h
    refine qr_get (C := RX7) (T := TX7) (N := 35) (ci := 7) hx hb hts in7 hown hG hL1 fK2 (by decide) rfl 0 (by decide) rfl (hts (.fieldLink RX7 95 "QuayMeshModel" "thrown" "I") (List.mem_of_getElem? (i := 1) rfl)) (fun _ h9 => h9) (v := .int (qs_I S 0 a0)) rfl dX7_box_75 ?_
    refine lv_topi (fun v3 ev3 => ?_)
    have h := h v3 ev3
    refine lv_if_le (tgt := 83) hx hb dX7_box_78 (by decide) (fun c4 => ?_) (fun c4 => ?_)
    · have h := h.1 c4
      refine lv_aload_n hx hb dX7_box_83 rfl (lv_at hl 0 rfl) ?_
      obtain ⟨q5, eq5, h⟩ := h
      refine qr_get (C := RX7) (T := TX7) (N := 35) (ci := 7) hx hb hts in7 hown hG hL1 fK2 (by decide) rfl 7 (by decide) rfl (hts (.fieldLink RX7 20 "QuayMeshModel" "shipOf" "[I") (List.mem_of_getElem? (i := 5) rfl)) (fun _ h9 => h9) (v := .ref q5) (qs_rf eq5) dX7_box_84 ?_
      refine lv_aload_n hx hb dX7_box_87 rfl (lv_at hl 0 rfl) ?_
      refine qr_get (C := RX7) (T := TX7) (N := 35) (ci := 7) hx hb hts in7 hown hG hL1 fK2 (by decide) rfl 6 (by decide) rfl (hts (.fieldLink RX7 106 "QuayMeshModel" "boxes" "I") (List.mem_of_getElem? (i := 4) rfl)) (fun _ h9 => h9) (v := .int (qs_I S 6 a0)) rfl dX7_box_88 ?_
      refine lv_topi (fun v6 ev6 => ?_)
      have h := h v6 ev6
      refine lv_iload_n hx hb dX7_box_91 rfl (lv_at hl 1 rfl) ?_
      obtain ⟨⟨hL7, fK8⟩, h⟩ := h
      obtain ⟨hi9, h⟩ := h
      refine qr_iast hx hb hG hL7 fK8 hi9 dX7_box_92 (fun H locs hG => ?_)
      refine lv_aload_n hx hb dX7_box_93 rfl (lv_at hl 0 rfl) ?_
      obtain ⟨q10, eq10, h⟩ := h
      refine qr_get (C := RX7) (T := TX7) (N := 35) (ci := 7) hx hb hts in7 hown hG hL1 fK2 (by decide) rfl 8 (by decide) rfl (hts (.fieldLink RX7 23 "QuayMeshModel" "placeOf" "[I") (List.mem_of_getElem? (i := 6) rfl)) (fun _ h9 => h9) (v := .ref q10) (qs_rf eq10) dX7_box_94 ?_
      refine lv_aload_n hx hb dX7_box_97 rfl (lv_at hl 0 rfl) ?_
      refine qr_get (C := RX7) (T := TX7) (N := 35) (ci := 7) hx hb hts in7 hown hG hL1 fK2 (by decide) rfl 6 (by decide) rfl (hts (.fieldLink RX7 106 "QuayMeshModel" "boxes" "I") (List.mem_of_getElem? (i := 4) rfl)) (fun _ h9 => h9) (v := .int (qs_I (qs_wA S q5 v6.toNatClampNeg x1) 6 a0)) rfl dX7_box_98 ?_
      refine lv_topi (fun v11 ev11 => ?_)
      have h := h v11 ev11
      refine lv_iload_n hx hb dX7_box_101 rfl (lv_at hl 2 rfl) ?_
      obtain ⟨⟨hL12, fK13⟩, h⟩ := h
      obtain ⟨hi14, h⟩ := h
      refine qr_iast hx hb hG hL12 fK13 hi14 dX7_box_102 (fun H locs hG => ?_)
      refine lv_aload_n hx hb dX7_box_103 rfl (lv_at hl 0 rfl) ?_
      obtain ⟨q15, eq15, h⟩ := h
      refine qr_get (C := RX7) (T := TX7) (N := 35) (ci := 7) hx hb hts in7 hown hG hL1 fK2 (by decide) rfl 9 (by decide) rfl (hts (.fieldLink RX7 26 "QuayMeshModel" "where" "[I") (List.mem_of_getElem? (i := 7) rfl)) (fun _ h9 => h9) (v := .ref q15) (qs_rf eq15) dX7_box_104 ?_
      refine lv_aload_n hx hb dX7_box_107 rfl (lv_at hl 0 rfl) ?_
      refine qr_get (C := RX7) (T := TX7) (N := 35) (ci := 7) hx hb hts in7 hown hG hL1 fK2 (by decide) rfl 6 (by decide) rfl (hts (.fieldLink RX7 106 "QuayMeshModel" "boxes" "I") (List.mem_of_getElem? (i := 4) rfl)) (fun _ h9 => h9) (v := .int (qs_I (qs_wA (qs_wA S q5 v6.toNatClampNeg x1) q10 v11.toNatClampNeg x2) 6 a0)) rfl dX7_box_108 ?_
      refine lv_topi (fun v16 ev16 => ?_)
      have h := h v16 ev16
      refine lv_iconst (v := (0 : Int32)) hx hb dX7_box_111 (by decide +kernel) ?_
      obtain ⟨⟨hL17, fK18⟩, h⟩ := h
      obtain ⟨hi19, h⟩ := h
      refine qr_iast hx hb hG hL17 fK18 hi19 dX7_box_112 (fun H locs hG => ?_)
      refine lv_aload_n hx hb dX7_box_113 rfl (lv_at hl 0 rfl) ?_
      obtain ⟨q20, eq20, h⟩ := h
      refine qr_get (C := RX7) (T := TX7) (N := 35) (ci := 7) hx hb hts in7 hown hG hL1 fK2 (by decide) rfl 11 (by decide) rfl (hts (.fieldLink RX7 32 "QuayMeshModel" "lifter" "[I") (List.mem_of_getElem? (i := 8) rfl)) (fun _ h9 => h9) (v := .ref q20) (qs_rf eq20) dX7_box_114 ?_
      refine lv_aload_n hx hb dX7_box_117 rfl (lv_at hl 0 rfl) ?_
      refine qr_get (C := RX7) (T := TX7) (N := 35) (ci := 7) hx hb hts in7 hown hG hL1 fK2 (by decide) rfl 6 (by decide) rfl (hts (.fieldLink RX7 106 "QuayMeshModel" "boxes" "I") (List.mem_of_getElem? (i := 4) rfl)) (fun _ h9 => h9) (v := .int (qs_I (qs_wA (qs_wA (qs_wA S q5 v6.toNatClampNeg x1) q10 v11.toNatClampNeg x2) q15 v16.toNatClampNeg (0 : Int32)) 6 a0)) rfl dX7_box_118 ?_
      refine lv_topi (fun v21 ev21 => ?_)
      have h := h v21 ev21
      refine lv_iconst (v := (-1 : Int32)) hx hb dX7_box_121 (by decide +kernel) ?_
      obtain ⟨⟨hL22, fK23⟩, h⟩ := h
      obtain ⟨hi24, h⟩ := h
      refine qr_iast hx hb hG hL22 fK23 hi24 dX7_box_122 (fun H locs hG => ?_)
      refine lv_aload_n hx hb dX7_box_123 rfl (lv_at hl 0 rfl) ?_
      obtain ⟨q25, eq25, h⟩ := h
      refine qr_get (C := RX7) (T := TX7) (N := 35) (ci := 7) hx hb hts in7 hown hG hL1 fK2 (by decide) rfl 12 (by decide) rfl (hts (.fieldLink RX7 35 "QuayMeshModel" "booked" "[I") (List.mem_of_getElem? (i := 9) rfl)) (fun _ h9 => h9) (v := .ref q25) (qs_rf eq25) dX7_box_124 ?_
      refine lv_aload_n hx hb dX7_box_127 rfl (lv_at hl 0 rfl) ?_
      refine qr_get (C := RX7) (T := TX7) (N := 35) (ci := 7) hx hb hts in7 hown hG hL1 fK2 (by decide) rfl 6 (by decide) rfl (hts (.fieldLink RX7 106 "QuayMeshModel" "boxes" "I") (List.mem_of_getElem? (i := 4) rfl)) (fun _ h9 => h9) (v := .int (qs_I (qs_wA (qs_wA (qs_wA (qs_wA S q5 v6.toNatClampNeg x1) q10 v11.toNatClampNeg x2) q15 v16.toNatClampNeg (0 : Int32)) q20 v21.toNatClampNeg (-1 : Int32)) 6 a0)) rfl dX7_box_128 ?_
      refine lv_topi (fun v26 ev26 => ?_)
      have h := h v26 ev26
      refine lv_iconst (v := (-1 : Int32)) hx hb dX7_box_131 (by decide +kernel) ?_
      obtain ⟨⟨hL27, fK28⟩, h⟩ := h
      obtain ⟨hi29, h⟩ := h
      refine qr_iast hx hb hG hL27 fK28 hi29 dX7_box_132 (fun H locs hG => ?_)
      obtain ⟨S30, eS30⟩ : ∃ z : qs_S, z = qs_wA (qs_wA (qs_wA (qs_wA (qs_wA S q5 v6.toNatClampNeg x1) q10 v11.toNatClampNeg x2) q15 v16.toNatClampNeg (0 : Int32)) q20 v21.toNatClampNeg (-1 : Int32)) q25 v26.toNatClampNeg (-1 : Int32) := ⟨_, rfl⟩
      have h := h S30 eS30
      rw [← eS30] at hG
      have hL31 : a0 ∈ qs_L S30 := by rw [eS30]; exact hL1
      have fK32 : qs_K S30 a0 = 7 := by rw [eS30]; exact fK2
      refine lv_aload_n hx hb dX7_box_133 rfl (lv_at hl 0 rfl) ?_
      refine lv_dup hx hb dX7_box_134 rfl ?_
      refine qr_get (C := RX7) (T := TX7) (N := 35) (ci := 7) hx hb hts in7 hown hG hL31 fK32 (by decide) rfl 6 (by decide) rfl (hts (.fieldLink RX7 106 "QuayMeshModel" "boxes" "I") (List.mem_of_getElem? (i := 4) rfl)) (fun _ h9 => h9) (v := .int (qs_I S30 6 a0)) rfl dX7_box_135 ?_
      refine lv_topi (fun v33 ev33 => ?_)
      have h := h v33 ev33
      refine lv_iconst (v := (1 : Int32)) hx hb dX7_box_138 (by decide +kernel) ?_
      refine lv_iadd hx hb dX7_box_139 ?_
      refine lv_topi (fun v34 ev34 => ?_)
      have h := h v34 ev34
      refine qr_putI (C := RX7) (T := TX7) (N := 35) (ci := 7) hx hb hts in7 tyX7 tyX7_ok nmX7 hown hG hL31 fK32 (by decide) rfl 6 (by decide) rfl (hts (.fieldLink RX7 106 "QuayMeshModel" "boxes" "I") (List.mem_of_getElem? (i := 4) rfl)) (fun _ h9 => h9) rfl (x := v34) (tyX7_ok 6 (by decide)) rfl rfl dX7_box_140 (fun H locs hG => ?_)
      refine lv_aload_n hx hb dX7_box_143 rfl (lv_at hl 0 rfl) ?_
      refine qr_get (C := RX7) (T := TX7) (N := 35) (ci := 7) hx hb hts in7 hown hG hL31 fK32 (by decide) rfl 6 (by decide) rfl (hts (.fieldLink RX7 106 "QuayMeshModel" "boxes" "I") (List.mem_of_getElem? (i := 4) rfl)) (fun _ h9 => h9) (v := .int (qs_I (qs_wI S30 6 a0 v34) 6 a0)) rfl dX7_box_144 ?_
      refine lv_topi (fun v35 ev35 => ?_)
      have h := h v35 ev35
      refine lv_iconst (v := (1 : Int32)) hx hb dX7_box_147 (by decide +kernel) ?_
      refine lv_isub hx hb dX7_box_148 ?_
      refine lv_topi (fun v36 ev36 => ?_)
      have h := h v36 ev36
      exact qe_i hx hb hr hlk hG h (Nat.le_refl _) (Nat.le_refl _) dX7_box_149
    · have h := h.2 c4
      refine lv_iconst (v := (0 : Int32)) hx hb dX7_box_81 (by decide +kernel) ?_
      exact qe_i hx hb hr hlk hG h (Nat.le_refl _) (Nat.le_refl _) dX7_box_82
  have b71 : ∀ (S : qs_S) (a0 : Nat) (x1 : Int32) (x2 : Int32) (r0 : Nat) (s1 : Int32) (H : Heap) (locs : List Loc) (ls : Array Slot), wp_X7_box_b71 g.2.2.2.2.2.2.1 g.2.2.2.2.2.2.2 post S a0 x1 x2 r0 s1 → qs_Gd g (qs_F g SA s.heap.size) s S H locs → lv_has ls 3 [(0, .ref a0), (1, .int x1), (2, .int x2)] → W p l e (headSpec wsX7_box ({ frames := 2, cells := 0, slots := 0, locals := 43 } : Room)).room s m (([.ref a0z, .int x1z, .int x2z] : List Value)).toArray below meth c H locs 0 0 (MQ below (qs_Qi g (qs_F g SA s.heap.size) post) (([.ref a0z, .int x1z, .int x2z] : List Value)).toArray s 0 0 (qs_F g SA s.heap.size)) (F0 m 71 ls [.int s1, .ref r0]) := by
    intro S a0 x1 x2 r0 s1 H locs ls h hG hl
    unfold wp_X7_box_b71 at h
    obtain ⟨⟨hL37, fK38⟩, h⟩ := h
    refine qr_putI (C := RX7) (T := TX7) (N := 35) (ci := 7) hx hb hts in7 tyX7 tyX7_ok nmX7 hown hG hL37 fK38 (by decide) rfl 0 (by decide) rfl (hts (.fieldLink RX7 95 "QuayMeshModel" "thrown" "I") (List.mem_of_getElem? (i := 1) rfl)) (fun _ h9 => h9) rfl (x := s1) (tyX7_ok 0 (by decide)) rfl rfl dX7_box_71 (fun H locs hG => ?_)
    exact b74 (qs_wI S 0 r0 s1) a0 x1 x2 _ _ ls h hG (lv_sub hl [0, 1, 2] rfl)
  have b14 : ∀ (S : qs_S) (a0 : Nat) (x1 : Int32) (x2 : Int32) (r0 : Nat) (s1 : Int32) (H : Heap) (locs : List Loc) (ls : Array Slot), wp_X7_box_b14 g.2.2.2.2.2.2.1 g.2.2.2.2.2.2.2 post S a0 x1 x2 r0 s1 → qs_Gd g (qs_F g SA s.heap.size) s S H locs → lv_has ls 3 [(0, .ref a0), (1, .int x1), (2, .int x2)] → W p l e (headSpec wsX7_box ({ frames := 2, cells := 0, slots := 0, locals := 43 } : Room)).room s m (([.ref a0z, .int x1z, .int x2z] : List Value)).toArray below meth c H locs 0 0 (MQ below (qs_Qi g (qs_F g SA s.heap.size) post) (([.ref a0z, .int x1z, .int x2z] : List Value)).toArray s 0 0 (qs_F g SA s.heap.size)) (F0 m 14 ls [.int s1, .ref r0]) := by
    intro S a0 x1 x2 r0 s1 H locs ls h hG hl
    unfold wp_X7_box_b14 at h
    obtain ⟨⟨hL39, fK40⟩, h⟩ := h
    refine qr_putI (C := RX7) (T := TX7) (N := 35) (ci := 7) hx hb hts in7 tyX7 tyX7_ok nmX7 hown hG hL39 fK40 (by decide) rfl 0 (by decide) rfl (hts (.fieldLink RX7 95 "QuayMeshModel" "thrown" "I") (List.mem_of_getElem? (i := 1) rfl)) (fun _ h9 => h9) rfl (x := s1) (tyX7_ok 0 (by decide)) rfl rfl dX7_box_14 (fun H locs hG => ?_)
    refine lv_aload_n hx hb dX7_box_17 rfl (lv_at hl 0 rfl) ?_
    obtain ⟨⟨hL41, fK42⟩, h⟩ := h
    refine qr_get (C := RX7) (T := TX7) (N := 35) (ci := 7) hx hb hts in7 hown hG hL41 fK42 (by decide) rfl 0 (by decide) rfl (hts (.fieldLink RX7 95 "QuayMeshModel" "thrown" "I") (List.mem_of_getElem? (i := 1) rfl)) (fun _ h9 => h9) (v := .int (qs_I (qs_wI S 0 r0 s1) 0 a0)) rfl dX7_box_18 ?_
    refine lv_topi (fun v43 ev43 => ?_)
    have h := h v43 ev43
    refine lv_if_ne (tgt := 74) hx hb dX7_box_21 (by decide) (fun c44 => ?_) (fun c44 => ?_)
    · have h := h.1 c44
      exact b74 (qs_wI S 0 r0 s1) a0 x1 x2 _ _ ls h hG (lv_sub hl [0, 1, 2] rfl)
    · have h := h.2 c44
      refine lv_aload_n hx hb dX7_box_24 rfl (lv_at hl 0 rfl) ?_
      refine lv_iload_n hx hb dX7_box_25 rfl (lv_at hl 2 rfl) ?_
      refine lv_aload_n hx hb dX7_box_26 rfl (lv_at hl 0 rfl) ?_
      obtain ⟨q45, eq45, h⟩ := h
      refine qr_get (C := RX7) (T := TX7) (N := 35) (ci := 7) hx hb hts in7 hown hG hL41 fK42 (by decide) rfl 3 (by decide) rfl (hts (.fieldLink RX7 7 "QuayMeshModel" "from" "[I") (List.mem_of_getElem? (i := 2) rfl)) (fun _ h9 => h9) (v := .ref q45) (qs_rf eq45) dX7_box_27 ?_
      refine lv_iload_n hx hb dX7_box_30 rfl (lv_at hl 1 rfl) ?_
      obtain ⟨⟨hL46, fK47⟩, h⟩ := h
      obtain ⟨hi48, h⟩ := h
      refine qr_iald hx hb hG hL46 fK47 hi48 rfl dX7_box_31 ?_
      refine lv_topi (fun v49 ev49 => ?_)
      have h := h v49 ev49
      refine lv_aload_n hx hb dX7_box_32 rfl (lv_at hl 0 rfl) ?_
      obtain ⟨q50, eq50, h⟩ := h
      refine qr_get (C := RX7) (T := TX7) (N := 35) (ci := 7) hx hb hts in7 hown hG hL41 fK42 (by decide) rfl 3 (by decide) rfl (hts (.fieldLink RX7 7 "QuayMeshModel" "from" "[I") (List.mem_of_getElem? (i := 2) rfl)) (fun _ h9 => h9) (v := .ref q50) (qs_rf eq50) dX7_box_33 ?_
      refine lv_iload_n hx hb dX7_box_36 rfl (lv_at hl 1 rfl) ?_
      obtain ⟨⟨hL51, fK52⟩, h⟩ := h
      obtain ⟨hi53, h⟩ := h
      refine qr_iald hx hb hG hL51 fK52 hi53 rfl dX7_box_37 ?_
      refine lv_topi (fun v54 ev54 => ?_)
      have h := h v54 ev54
      refine lv_aload_n hx hb dX7_box_38 rfl (lv_at hl 0 rfl) ?_
      obtain ⟨q55, eq55, h⟩ := h
      refine qr_get (C := RX7) (T := TX7) (N := 35) (ci := 7) hx hb hts in7 hown hG hL41 fK42 (by decide) rfl 4 (by decide) rfl (hts (.fieldLink RX7 13 "QuayMeshModel" "length" "[I") (List.mem_of_getElem? (i := 3) rfl)) (fun _ h9 => h9) (v := .ref q55) (qs_rf eq55) dX7_box_39 ?_
      refine lv_iload_n hx hb dX7_box_42 rfl (lv_at hl 1 rfl) ?_
      obtain ⟨⟨hL56, fK57⟩, h⟩ := h
      obtain ⟨hi58, h⟩ := h
      refine qr_iald hx hb hG hL56 fK57 hi58 rfl dX7_box_43 ?_
      refine lv_topi (fun v59 ev59 => ?_)
      have h := h v59 ev59
      refine lv_iadd hx hb dX7_box_44 ?_
      refine lv_topi (fun v60 ev60 => ?_)
      have h := h v60 ev60
      refine lv_iconst (v := (1 : Int32)) hx hb dX7_box_45 (by decide +kernel) ?_
      refine lv_isub hx hb dX7_box_46 ?_
      refine lv_topi (fun v61 ev61 => ?_)
      have h := h v61 ev61
      refine qc_i hG (va_runS (As := [.int x2, .int v49, .int v61]) (rest := [.ref a0]) ⟨hx, hb, hml, hown, hts⟩ (c_X7_in l g _ (qs_wI S 0 r0 s1) x2 v49 v61 h) (va_cwS 3 hts gX7_box_X7_in rfl rfl rfl (by decide +kernel) ⟨(Nat.le_of_ble_eq_true rfl), (Nat.le_of_ble_eq_true rfl)⟩) ⟨qs_Pc.blind _ _ _ _, hG.pre _⟩ rfl rfl hl.1 rfl (lv_room (Nat.le_of_ble_eq_true rfl)) dX7_box_47 ⟨Nat.zero_le _, Nat.zero_le _⟩) (fun v65 S64 H locs h hG => ?_)
      refine lv_if_ne (tgt := 57) hx hb dX7_box_50 (by decide) (fun c66 => ?_) (fun c66 => ?_)
      · have h := h.1 c66
        refine lv_aload_n hx hb dX7_box_57 rfl (lv_at hl 0 rfl) ?_
        obtain ⟨⟨hL67, fK68⟩, h⟩ := h
        refine qr_get (C := RX7) (T := TX7) (N := 35) (ci := 7) hx hb hts in7 hown hG hL67 fK68 (by decide) rfl 6 (by decide) rfl (hts (.fieldLink RX7 106 "QuayMeshModel" "boxes" "I") (List.mem_of_getElem? (i := 4) rfl)) (fun _ h9 => h9) (v := .int (qs_I S64 6 a0)) rfl dX7_box_58 ?_
        refine lv_topi (fun v69 ev69 => ?_)
        have h := h v69 ev69
        refine lv_bipush (v := (24 : Int32)) hx hb dX7_box_61 (by decide +kernel) ?_
        refine lv_icmp_ne (tgt := 70) hx hb dX7_box_63 (by decide) (fun c70 => ?_) (fun c70 => ?_)
        · have h := h.1 c70
          refine lv_iconst (v := (0 : Int32)) hx hb dX7_box_70 (by decide +kernel) ?_
          exact b71 S64 a0 x1 x2 a0 (0 : Int32) _ _ ls h hG (lv_sub hl [0, 1, 2] rfl)
        · have h := h.2 c70
          refine lv_iconst (v := (3 : Int32)) hx hb dX7_box_66 (by decide +kernel) ?_
          refine lv_goto (tgt := 71) hx hb dX7_box_67 (by decide) ?_
          exact b71 S64 a0 x1 x2 a0 (3 : Int32) _ _ ls h hG (lv_sub hl [0, 1, 2] rfl)
      · have h := h.2 c66
        refine lv_iconst (v := (2 : Int32)) hx hb dX7_box_53 (by decide +kernel) ?_
        refine lv_goto (tgt := 71) hx hb dX7_box_54 (by decide) ?_
        exact b71 S64 a0 x1 x2 a0 (2 : Int32) _ _ ls h hG (lv_sub hl [0, 1, 2] rfl)
  have hl := lv_entry ([.ref a0z, .int x1z, .int x2z]) (n := 3) (Nat.le_of_ble_eq_true rfl)
  rw [lg_entry_eq]
  generalize (lg_sl ([.ref a0z, .int x1z, .int x2z]) ++ List.replicate (3 - (lg_sl ([.ref a0z, .int x1z, .int x2z])).length) Slot.unset).toArray = ls at hl ⊢
  have hl : lv_has ls 3 [(0, .ref a0z), (1, .int x1z), (2, .int x2z)] := hl
  unfold wp_X7_box at h
  refine lv_aload_n hx hb dX7_box_0 rfl (lv_at hl 0 rfl) ?_
  refine lv_aload_n hx hb dX7_box_1 rfl (lv_at hl 0 rfl) ?_
  refine lv_iload_n hx hb dX7_box_2 rfl (lv_at hl 1 rfl) ?_
  obtain ⟨⟨hL73, fK74⟩, h⟩ := h
  refine qc_i hG (va_runV (As := [.int x1z]) (rest := [.ref a0z]) ⟨hx, hb, hml, hown, hts⟩ (c_X7_isShip l g _ SA a0z x1z h) (cwV 1 hts gX7_box_X7_isShip rfl rfl rfl (by decide +kernel) ⟨(Nat.le_of_ble_eq_true rfl), (Nat.le_of_ble_eq_true rfl)⟩) ⟨qs_Pc.blind _ _ _ _, hG.recv hL73 fK74 (by decide) rfl, hG.pre _⟩ rfl rfl hl.1 rfl (lv_room (Nat.le_of_ble_eq_true rfl)) dX7_box_3 ⟨Nat.zero_le _, Nat.zero_le _⟩) (fun v76 S75 H locs h hG => ?_)
  refine lv_if_eq (tgt := 13) hx hb dX7_box_6 (by decide) (fun c77 => ?_) (fun c77 => ?_)
  · have h := h.1 c77
    refine lv_iconst (v := (1 : Int32)) hx hb dX7_box_13 (by decide +kernel) ?_
    exact b14 S75 a0z x1z x2z a0z (1 : Int32) _ _ ls h hG (lv_sub hl [0, 1, 2] rfl)
  · have h := h.2 c77
    refine lv_iconst (v := (0 : Int32)) hx hb dX7_box_9 (by decide +kernel) ?_
    refine lv_goto (tgt := 14) hx hb dX7_box_10 (by decide) ?_
    exact b14 S75 a0z x1z x2z a0z (0 : Int32) _ _ ls h hG (lv_sub hl [0, 1, 2] rfl)
def wp_X7_leave_b80 (t0 m9 : Nat) (post : Int32 → qs_S → Prop) (K21 : qs_S → Nat → Int32 → Int32 → Int32 → Prop) (S : qs_S) (a0 : Nat) (x1 : Int32) (x3 : Int32) (s0 : Int32) (s1 : Int32) : Prop := ∀ v1 : Int32, v1 = s0 + s1 → ∀ v2 : Int32, v2 = x3 + 1 → K21 S a0 x1 v1 v2
def wp_X7_leave_b61 (t0 m9 : Nat) (post : Int32 → qs_S → Prop) (K21 : qs_S → Nat → Int32 → Int32 → Int32 → Prop) (S : qs_S) (a0 : Nat) (x1 : Int32) (x2 : Int32) (x3 : Int32) (r0 : Nat) (s1 : Int32) : Prop := (r0 ∈ qs_L S ∧ qs_K S r0 = 7) ∧ ((a0 ∈ qs_L (qs_wI S 0 r0 s1) ∧ qs_K (qs_wI S 0 r0 s1) a0 = 7) ∧ (∃ q7 : Nat, qs_R (qs_wI S 0 r0 s1) 7 a0 = some q7 ∧ ((q7 ∈ qs_L (qs_wI S 0 r0 s1) ∧ qs_K (qs_wI S 0 r0 s1) q7 = 8) ∧ (vp_in x3 (qs_Z (qs_wI S 0 r0 s1) q7) ∧ (∀ v11 : Int32, v11 = qs_A (qs_wI S 0 r0 s1) q7 x3.toNatClampNeg → (¬ v11 = x1 → (wp_X7_leave_b80 t0 m9 post K21 (qs_wI S 0 r0 s1) a0 x1 x3 x2 (0 : Int32))) ∧ (v11 = x1 → (wp_X7_leave_b80 t0 m9 post K21 (qs_wI S 0 r0 s1) a0 x1 x3 x2 (1 : Int32))))))))
def wp_X7_leave_b60 (t0 m9 : Nat) (post : Int32 → qs_S → Prop) (K21 : qs_S → Nat → Int32 → Int32 → Int32 → Prop) (S : qs_S) (a0 : Nat) (x1 : Int32) (x2 : Int32) (x3 : Int32) (r0 : Nat) : Prop := wp_X7_leave_b61 t0 m9 post K21 S a0 x1 x2 x3 r0 (0 : Int32)
def wp_X7_leave_b88 (t0 m9 : Nat) (post : Int32 → qs_S → Prop) (S : qs_S) (a0 : Nat) (x1 : Int32) (x2 : Int32) : Prop := (a0 ∈ qs_L S ∧ qs_K S a0 = 7) ∧ (∀ v15 : Int32, v15 = qs_I S 0 a0 → (v15 ≤ 0 → (∃ q17 : Nat, qs_R S 5 a0 = some q17 ∧ ((q17 ∈ qs_L S ∧ qs_K S q17 = 9) ∧ (vp_in x1 (qs_Z S q17) ∧ (post x2 (qs_wA S q17 x1.toNatClampNeg (1 : Int32))))))) ∧ (¬ v15 ≤ 0 → (post (0 : Int32) S)))
def wp_X7_leave_c21 (t0 m9 : Nat) (post : Int32 → qs_S → Prop) (K21 : qs_S → Nat → Int32 → Int32 → Int32 → Prop) (S : qs_S) (a0 : Nat) (x1 : Int32) (x2 : Int32) (x3 : Int32) : Prop := (a0 ∈ qs_L S ∧ qs_K S a0 = 7) ∧ (∀ v23 : Int32, v23 = qs_I S 6 a0 → (v23 ≤ x3 → (wp_X7_leave_b88 t0 m9 post S a0 x1 x2)) ∧ (¬ v23 ≤ x3 → (∀ v25 : Int32, v25 = qs_I S 0 a0 → (¬ v25 = 0 → (wp_X7_leave_b88 t0 m9 post S a0 x1 x2)) ∧ (v25 = 0 → (∃ q27 : Nat, qs_R S 7 a0 = some q27 ∧ ((q27 ∈ qs_L S ∧ qs_K S q27 = 8) ∧ (vp_in x3 (qs_Z S q27) ∧ (∀ v31 : Int32, v31 = qs_A S q27 x3.toNatClampNeg → (¬ v31 = x1 → (wp_X7_leave_b60 t0 m9 post K21 S a0 x1 x2 x3 a0)) ∧ (v31 = x1 → (∃ q33 : Nat, qs_R S 9 a0 = some q33 ∧ ((q33 ∈ qs_L S ∧ qs_K S q33 = 8) ∧ (vp_in x3 (qs_Z S q33) ∧ (∀ v37 : Int32, v37 = qs_A S q33 x3.toNatClampNeg → (¬ v37 = 0 → (wp_X7_leave_b60 t0 m9 post K21 S a0 x1 x2 x3 a0)) ∧ (v37 = 0 → (wp_X7_leave_b61 t0 m9 post K21 S a0 x1 x2 x3 a0 (2 : Int32))))))))))))))))
def wp_X7_leave_b21 (t0 m9 : Nat) (post : Int32 → qs_S → Prop) : Nat → qs_S → Nat → Int32 → Int32 → Int32 → Prop
  | 0 => fun _ _ _ _ _ => False
  | n9 + 1 => wp_X7_leave_c21 t0 m9 post (wp_X7_leave_b21 t0 m9 post n9)
def wp_X7_leave_b14 (t0 m9 : Nat) (post : Int32 → qs_S → Prop) (S : qs_S) (a0 : Nat) (x1 : Int32) (r0 : Nat) (s1 : Int32) : Prop := (r0 ∈ qs_L S ∧ qs_K S r0 = 7) ∧ (∃ n41 : Nat, wp_X7_leave_b21 t0 m9 post n41 (qs_wI S 0 r0 s1) a0 x1 (0 : Int32) (0 : Int32))
def wp_X7_leave (t0 m9 : Nat) (post : Int32 → qs_S → Prop) (SA : qs_S) (a0z : Nat) (x1z : Int32) : Prop := (a0z ∈ qs_L SA ∧ qs_K SA a0z = 7) ∧ (wp_X7_isShip t0 m9 (fun (v47 : Int32) (S46 : qs_S) => (v47 = 0 → (wp_X7_leave_b14 t0 m9 post S46 a0z x1z a0z (1 : Int32))) ∧ (¬ v47 = 0 → (wp_X7_leave_b14 t0 m9 post S46 a0z x1z a0z (0 : Int32)))) SA a0z x1z)
set_option maxHeartbeats 4000000 in
set_option maxRecDepth 100000 in
theorem c_X7_leave (l : Launch) (g : qs_G) (sz : Nat) (SA : qs_S) (a0z : Nat) (x1z : Int32) {post : Int32 → qs_S → Prop} (h : wp_X7_leave g.2.2.2.2.2.2.1 g.2.2.2.2.2.2.2 post SA a0z x1z) : Met l yX7_leave wsX7_leave ({ frames := 2, cells := 0, slots := 0, locals := 43 } : Room) (qs_Pc g sz SA [.ref a0z, .int x1z]) (qs_Qi g (qs_F g SA sz) post) 0 0 (qs_F g SA sz) := by
  refine Met.ofW (cc := cX7_leave) (maxL := 4) (ret := (some .int)) (by decide +kernel) rfl ?_
  intro p e s m args below meth c s₁ B hml hv
  obtain ⟨rfl, hsz, hG⟩ := qs_Gd.start hv
  subst hsz
  have hx := B.exec
  have hb := B.bytes
  have hr := B.returns
  have hts := atoms_spec (ws := wsX7_leave) B.pre
  have hown : s.vm.findClass RX7 = some m.cls := findClass_of_methodNamed B.named
  have hlk := B.notSynchronized
  have in7 : ∀ w ∈ u_ws RX7 TX7 35, w ∈ wsX7_leave := fun w h => List.mem_cons_of_mem _ (List.mem_append_right _ (h))
  have b80 : ∀ (K21 : qs_S → Nat → Int32 → Int32 → Int32 → Prop), (∀ (S : qs_S) (a0 : Nat) (x1 : Int32) (x2 : Int32) (x3 : Int32) (H : Heap) (locs : List Loc) (ls : Array Slot), K21 S a0 x1 x2 x3 → qs_Gd g (qs_F g SA s.heap.size) s S H locs → lv_has ls 4 [(0, .ref a0), (1, .int x1), (2, .int x2), (3, .int x3)] → W p l e (headSpec wsX7_leave ({ frames := 2, cells := 0, slots := 0, locals := 43 } : Room)).room s m (([.ref a0z, .int x1z] : List Value)).toArray below meth c H locs 0 0 (MQ below (qs_Qi g (qs_F g SA s.heap.size) post) (([.ref a0z, .int x1z] : List Value)).toArray s 0 0 (qs_F g SA s.heap.size)) (F0 m 21 ls [])) → ∀ (S : qs_S) (a0 : Nat) (x1 : Int32) (x3 : Int32) (s0 : Int32) (s1 : Int32) (H : Heap) (locs : List Loc) (ls : Array Slot), wp_X7_leave_b80 g.2.2.2.2.2.2.1 g.2.2.2.2.2.2.2 post K21 S a0 x1 x3 s0 s1 → qs_Gd g (qs_F g SA s.heap.size) s S H locs → lv_has ls 4 [(0, .ref a0), (1, .int x1), (3, .int x3)] → W p l e (headSpec wsX7_leave ({ frames := 2, cells := 0, slots := 0, locals := 43 } : Room)).room s m (([.ref a0z, .int x1z] : List Value)).toArray below meth c H locs 0 0 (MQ below (qs_Qi g (qs_F g SA s.heap.size) post) (([.ref a0z, .int x1z] : List Value)).toArray s 0 0 (qs_F g SA s.heap.size)) (F0 m 80 ls [.int s1, .int s0]) := by
    intro K21 hK21 S a0 x1 x3 s0 s1 H locs ls h hG hl
    unfold wp_X7_leave_b80 at h
    refine lv_iadd hx hb dX7_leave_80 ?_
    refine lv_topi (fun v1 ev1 => ?_)
    have h := h v1 ev1
    refine lv_istore_n (lv' := [(2, .int v1), (0, .ref a0), (1, .int x1), (3, .int x3)]) hx hb dX7_leave_81 rfl hl (by decide) rfl (fun ls hl => ?_)
    obtain ⟨v2, ev2⟩ : ∃ y : Int32, y = x3 + 1 := ⟨_, rfl⟩
    have h := h v2 ev2
    refine lv_iinc (v := v2) (lv' := [(3, .int v2), (2, .int v1), (0, .ref a0), (1, .int x1)]) hx hb dX7_leave_82 hl (k := 3) rfl (by rw [ev2]; rfl) (by decide) rfl (fun ls hl => ?_)
    refine lv_goto (tgt := 21) hx hb dX7_leave_85 (by decide) ?_
    exact hK21 S a0 x1 v1 v2 _ _ ls h hG (lv_sub hl [2, 3, 1, 0] rfl)
  have b61 : ∀ (K21 : qs_S → Nat → Int32 → Int32 → Int32 → Prop), (∀ (S : qs_S) (a0 : Nat) (x1 : Int32) (x2 : Int32) (x3 : Int32) (H : Heap) (locs : List Loc) (ls : Array Slot), K21 S a0 x1 x2 x3 → qs_Gd g (qs_F g SA s.heap.size) s S H locs → lv_has ls 4 [(0, .ref a0), (1, .int x1), (2, .int x2), (3, .int x3)] → W p l e (headSpec wsX7_leave ({ frames := 2, cells := 0, slots := 0, locals := 43 } : Room)).room s m (([.ref a0z, .int x1z] : List Value)).toArray below meth c H locs 0 0 (MQ below (qs_Qi g (qs_F g SA s.heap.size) post) (([.ref a0z, .int x1z] : List Value)).toArray s 0 0 (qs_F g SA s.heap.size)) (F0 m 21 ls [])) → ∀ (S : qs_S) (a0 : Nat) (x1 : Int32) (x2 : Int32) (x3 : Int32) (r0 : Nat) (s1 : Int32) (H : Heap) (locs : List Loc) (ls : Array Slot), wp_X7_leave_b61 g.2.2.2.2.2.2.1 g.2.2.2.2.2.2.2 post K21 S a0 x1 x2 x3 r0 s1 → qs_Gd g (qs_F g SA s.heap.size) s S H locs → lv_has ls 4 [(0, .ref a0), (1, .int x1), (2, .int x2), (3, .int x3)] → W p l e (headSpec wsX7_leave ({ frames := 2, cells := 0, slots := 0, locals := 43 } : Room)).room s m (([.ref a0z, .int x1z] : List Value)).toArray below meth c H locs 0 0 (MQ below (qs_Qi g (qs_F g SA s.heap.size) post) (([.ref a0z, .int x1z] : List Value)).toArray s 0 0 (qs_F g SA s.heap.size)) (F0 m 61 ls [.int s1, .ref r0]) := by
    intro K21 hK21 S a0 x1 x2 x3 r0 s1 H locs ls h hG hl
    unfold wp_X7_leave_b61 at h
    obtain ⟨⟨hL3, fK4⟩, h⟩ := h
    refine qr_putI (C := RX7) (T := TX7) (N := 35) (ci := 7) hx hb hts in7 tyX7 tyX7_ok nmX7 hown hG hL3 fK4 (by decide) rfl 0 (by decide) rfl (hts (.fieldLink RX7 95 "QuayMeshModel" "thrown" "I") (List.mem_of_getElem? (i := 1) rfl)) (fun _ h9 => h9) rfl (x := s1) (tyX7_ok 0 (by decide)) rfl rfl dX7_leave_61 (fun H locs hG => ?_)
    refine lv_iload_n hx hb dX7_leave_64 rfl (lv_at hl 2 rfl) ?_
    refine lv_aload_n hx hb dX7_leave_65 rfl (lv_at hl 0 rfl) ?_
    obtain ⟨⟨hL5, fK6⟩, h⟩ := h
    obtain ⟨q7, eq7, h⟩ := h
    refine qr_get (C := RX7) (T := TX7) (N := 35) (ci := 7) hx hb hts in7 hown hG hL5 fK6 (by decide) rfl 7 (by decide) rfl (hts (.fieldLink RX7 20 "QuayMeshModel" "shipOf" "[I") (List.mem_of_getElem? (i := 3) rfl)) (fun _ h9 => h9) (v := .ref q7) (qs_rf eq7) dX7_leave_66 ?_
    refine lv_iload_n hx hb dX7_leave_69 rfl (lv_at hl 3 rfl) ?_
    obtain ⟨⟨hL8, fK9⟩, h⟩ := h
    obtain ⟨hi10, h⟩ := h
    refine qr_iald hx hb hG hL8 fK9 hi10 rfl dX7_leave_70 ?_
    refine lv_topi (fun v11 ev11 => ?_)
    have h := h v11 ev11
    refine lv_iload_n hx hb dX7_leave_71 rfl (lv_at hl 1 rfl) ?_
    refine lv_icmp_ne (tgt := 79) hx hb dX7_leave_72 (by decide) (fun c12 => ?_) (fun c12 => ?_)
    · have h := h.1 c12
      refine lv_iconst (v := (0 : Int32)) hx hb dX7_leave_79 (by decide +kernel) ?_
      exact b80 K21 hK21 (qs_wI S 0 r0 s1) a0 x1 x3 x2 (0 : Int32) _ _ ls h hG (lv_sub hl [0, 1, 3] rfl)
    · have h := h.2 c12
      refine lv_iconst (v := (1 : Int32)) hx hb dX7_leave_75 (by decide +kernel) ?_
      refine lv_goto (tgt := 80) hx hb dX7_leave_76 (by decide) ?_
      exact b80 K21 hK21 (qs_wI S 0 r0 s1) a0 x1 x3 x2 (1 : Int32) _ _ ls h hG (lv_sub hl [0, 1, 3] rfl)
  have b60 : ∀ (K21 : qs_S → Nat → Int32 → Int32 → Int32 → Prop), (∀ (S : qs_S) (a0 : Nat) (x1 : Int32) (x2 : Int32) (x3 : Int32) (H : Heap) (locs : List Loc) (ls : Array Slot), K21 S a0 x1 x2 x3 → qs_Gd g (qs_F g SA s.heap.size) s S H locs → lv_has ls 4 [(0, .ref a0), (1, .int x1), (2, .int x2), (3, .int x3)] → W p l e (headSpec wsX7_leave ({ frames := 2, cells := 0, slots := 0, locals := 43 } : Room)).room s m (([.ref a0z, .int x1z] : List Value)).toArray below meth c H locs 0 0 (MQ below (qs_Qi g (qs_F g SA s.heap.size) post) (([.ref a0z, .int x1z] : List Value)).toArray s 0 0 (qs_F g SA s.heap.size)) (F0 m 21 ls [])) → ∀ (S : qs_S) (a0 : Nat) (x1 : Int32) (x2 : Int32) (x3 : Int32) (r0 : Nat) (H : Heap) (locs : List Loc) (ls : Array Slot), wp_X7_leave_b60 g.2.2.2.2.2.2.1 g.2.2.2.2.2.2.2 post K21 S a0 x1 x2 x3 r0 → qs_Gd g (qs_F g SA s.heap.size) s S H locs → lv_has ls 4 [(0, .ref a0), (1, .int x1), (2, .int x2), (3, .int x3)] → W p l e (headSpec wsX7_leave ({ frames := 2, cells := 0, slots := 0, locals := 43 } : Room)).room s m (([.ref a0z, .int x1z] : List Value)).toArray below meth c H locs 0 0 (MQ below (qs_Qi g (qs_F g SA s.heap.size) post) (([.ref a0z, .int x1z] : List Value)).toArray s 0 0 (qs_F g SA s.heap.size)) (F0 m 60 ls [.ref r0]) := by
    intro K21 hK21 S a0 x1 x2 x3 r0 H locs ls h hG hl
    unfold wp_X7_leave_b60 at h
    refine lv_iconst (v := (0 : Int32)) hx hb dX7_leave_60 (by decide +kernel) ?_
    exact b61 K21 hK21 S a0 x1 x2 x3 r0 (0 : Int32) _ _ ls h hG (lv_sub hl [0, 1, 2, 3] rfl)
  have b88 : ∀ (S : qs_S) (a0 : Nat) (x1 : Int32) (x2 : Int32) (H : Heap) (locs : List Loc) (ls : Array Slot), wp_X7_leave_b88 g.2.2.2.2.2.2.1 g.2.2.2.2.2.2.2 post S a0 x1 x2 → qs_Gd g (qs_F g SA s.heap.size) s S H locs → lv_has ls 4 [(0, .ref a0), (1, .int x1), (2, .int x2)] → W p l e (headSpec wsX7_leave ({ frames := 2, cells := 0, slots := 0, locals := 43 } : Room)).room s m (([.ref a0z, .int x1z] : List Value)).toArray below meth c H locs 0 0 (MQ below (qs_Qi g (qs_F g SA s.heap.size) post) (([.ref a0z, .int x1z] : List Value)).toArray s 0 0 (qs_F g SA s.heap.size)) (F0 m 88 ls []) := by
    intro S a0 x1 x2 H locs ls h hG hl
    unfold wp_X7_leave_b88 at h
    refine lv_aload_n hx hb dX7_leave_88 rfl (lv_at hl 0 rfl) ?_
    obtain ⟨⟨hL13, fK14⟩, h⟩ := h
    refine qr_get (C := RX7) (T := TX7) (N := 35) (ci := 7) hx hb hts in7 hown hG hL13 fK14 (by decide) rfl 0 (by decide) rfl (hts (.fieldLink RX7 95 "QuayMeshModel" "thrown" "I") (List.mem_of_getElem? (i := 1) rfl)) (fun _ h9 => h9) (v := .int (qs_I S 0 a0)) rfl dX7_leave_89 ?_
    refine lv_topi (fun v15 ev15 => ?_)
    have h := h v15 ev15
    refine lv_if_le (tgt := 97) hx hb dX7_leave_92 (by decide) (fun c16 => ?_) (fun c16 => ?_)
    · have h := h.1 c16
      refine lv_aload_n hx hb dX7_leave_97 rfl (lv_at hl 0 rfl) ?_
      obtain ⟨q17, eq17, h⟩ := h
      refine qr_get (C := RX7) (T := TX7) (N := 35) (ci := 7) hx hb hts in7 hown hG hL13 fK14 (by decide) rfl 5 (by decide) rfl (hts (.fieldLink RX7 16 "QuayMeshModel" "hasLeft" "[Z") (List.mem_of_getElem? (i := 5) rfl)) (fun _ h9 => h9) (v := .ref q17) (qs_rf eq17) dX7_leave_98 ?_
      refine lv_iload_n hx hb dX7_leave_101 rfl (lv_at hl 1 rfl) ?_
      refine lv_iconst (v := (1 : Int32)) hx hb dX7_leave_102 (by decide +kernel) ?_
      obtain ⟨⟨hL18, fK19⟩, h⟩ := h
      obtain ⟨hi20, h⟩ := h
      refine qr_zast hx hb hG hL18 fK19 hi20 (Or.inr rfl) dX7_leave_103 (fun H locs hG => ?_)
      refine lv_iload_n hx hb dX7_leave_104 rfl (lv_at hl 2 rfl) ?_
      exact qe_i hx hb hr hlk hG h (Nat.le_refl _) (Nat.le_refl _) dX7_leave_105
    · have h := h.2 c16
      refine lv_iconst (v := (0 : Int32)) hx hb dX7_leave_95 (by decide +kernel) ?_
      exact qe_i hx hb hr hlk hG h (Nat.le_refl _) (Nat.le_refl _) dX7_leave_96
  have c21 : ∀ (K21 : qs_S → Nat → Int32 → Int32 → Int32 → Prop), (∀ (S : qs_S) (a0 : Nat) (x1 : Int32) (x2 : Int32) (x3 : Int32) (H : Heap) (locs : List Loc) (ls : Array Slot), K21 S a0 x1 x2 x3 → qs_Gd g (qs_F g SA s.heap.size) s S H locs → lv_has ls 4 [(0, .ref a0), (1, .int x1), (2, .int x2), (3, .int x3)] → W p l e (headSpec wsX7_leave ({ frames := 2, cells := 0, slots := 0, locals := 43 } : Room)).room s m (([.ref a0z, .int x1z] : List Value)).toArray below meth c H locs 0 0 (MQ below (qs_Qi g (qs_F g SA s.heap.size) post) (([.ref a0z, .int x1z] : List Value)).toArray s 0 0 (qs_F g SA s.heap.size)) (F0 m 21 ls [])) → ∀ (S : qs_S) (a0 : Nat) (x1 : Int32) (x2 : Int32) (x3 : Int32) (H : Heap) (locs : List Loc) (ls : Array Slot), wp_X7_leave_c21 g.2.2.2.2.2.2.1 g.2.2.2.2.2.2.2 post K21 S a0 x1 x2 x3 → qs_Gd g (qs_F g SA s.heap.size) s S H locs → lv_has ls 4 [(0, .ref a0), (1, .int x1), (2, .int x2), (3, .int x3)] → W p l e (headSpec wsX7_leave ({ frames := 2, cells := 0, slots := 0, locals := 43 } : Room)).room s m (([.ref a0z, .int x1z] : List Value)).toArray below meth c H locs 0 0 (MQ below (qs_Qi g (qs_F g SA s.heap.size) post) (([.ref a0z, .int x1z] : List Value)).toArray s 0 0 (qs_F g SA s.heap.size)) (F0 m 21 ls []) := by
    intro K21 hK21 S a0 x1 x2 x3 H locs ls h hG hl
    unfold wp_X7_leave_c21 at h
    refine lv_iload_n hx hb dX7_leave_21 rfl (lv_at hl 3 rfl) ?_
    refine lv_aload_n hx hb dX7_leave_22 rfl (lv_at hl 0 rfl) ?_
    obtain ⟨⟨hL21, fK22⟩, h⟩ := h
    refine qr_get (C := RX7) (T := TX7) (N := 35) (ci := 7) hx hb hts in7 hown hG hL21 fK22 (by decide) rfl 6 (by decide) rfl (hts (.fieldLink RX7 106 "QuayMeshModel" "boxes" "I") (List.mem_of_getElem? (i := 2) rfl)) (fun _ h9 => h9) (v := .int (qs_I S 6 a0)) rfl dX7_leave_23 ?_
    refine lv_topi (fun v23 ev23 => ?_)
    have h := h v23 ev23
    refine lv_icmp_ge (tgt := 88) hx hb dX7_leave_26 (by decide) (fun c24 => ?_) (fun c24 => ?_)
    · have h := h.1 c24
      exact b88 S a0 x1 x2 _ _ ls h hG (lv_sub hl [0, 1, 2] rfl)
    · have h := h.2 c24
      refine lv_aload_n hx hb dX7_leave_29 rfl (lv_at hl 0 rfl) ?_
      refine qr_get (C := RX7) (T := TX7) (N := 35) (ci := 7) hx hb hts in7 hown hG hL21 fK22 (by decide) rfl 0 (by decide) rfl (hts (.fieldLink RX7 95 "QuayMeshModel" "thrown" "I") (List.mem_of_getElem? (i := 1) rfl)) (fun _ h9 => h9) (v := .int (qs_I S 0 a0)) rfl dX7_leave_30 ?_
      refine lv_topi (fun v25 ev25 => ?_)
      have h := h v25 ev25
      refine lv_if_ne (tgt := 88) hx hb dX7_leave_33 (by decide) (fun c26 => ?_) (fun c26 => ?_)
      · have h := h.1 c26
        exact b88 S a0 x1 x2 _ _ ls h hG (lv_sub hl [0, 1, 2] rfl)
      · have h := h.2 c26
        refine lv_aload_n hx hb dX7_leave_36 rfl (lv_at hl 0 rfl) ?_
        refine lv_aload_n hx hb dX7_leave_37 rfl (lv_at hl 0 rfl) ?_
        obtain ⟨q27, eq27, h⟩ := h
        refine qr_get (C := RX7) (T := TX7) (N := 35) (ci := 7) hx hb hts in7 hown hG hL21 fK22 (by decide) rfl 7 (by decide) rfl (hts (.fieldLink RX7 20 "QuayMeshModel" "shipOf" "[I") (List.mem_of_getElem? (i := 3) rfl)) (fun _ h9 => h9) (v := .ref q27) (qs_rf eq27) dX7_leave_38 ?_
        refine lv_iload_n hx hb dX7_leave_41 rfl (lv_at hl 3 rfl) ?_
        obtain ⟨⟨hL28, fK29⟩, h⟩ := h
        obtain ⟨hi30, h⟩ := h
        refine qr_iald hx hb hG hL28 fK29 hi30 rfl dX7_leave_42 ?_
        refine lv_topi (fun v31 ev31 => ?_)
        have h := h v31 ev31
        refine lv_iload_n hx hb dX7_leave_43 rfl (lv_at hl 1 rfl) ?_
        refine lv_icmp_ne (tgt := 60) hx hb dX7_leave_44 (by decide) (fun c32 => ?_) (fun c32 => ?_)
        · have h := h.1 c32
          exact b60 K21 hK21 S a0 x1 x2 x3 a0 _ _ ls h hG (lv_sub hl [0, 1, 2, 3] rfl)
        · have h := h.2 c32
          refine lv_aload_n hx hb dX7_leave_47 rfl (lv_at hl 0 rfl) ?_
          obtain ⟨q33, eq33, h⟩ := h
          refine qr_get (C := RX7) (T := TX7) (N := 35) (ci := 7) hx hb hts in7 hown hG hL21 fK22 (by decide) rfl 9 (by decide) rfl (hts (.fieldLink RX7 26 "QuayMeshModel" "where" "[I") (List.mem_of_getElem? (i := 4) rfl)) (fun _ h9 => h9) (v := .ref q33) (qs_rf eq33) dX7_leave_48 ?_
          refine lv_iload_n hx hb dX7_leave_51 rfl (lv_at hl 3 rfl) ?_
          obtain ⟨⟨hL34, fK35⟩, h⟩ := h
          obtain ⟨hi36, h⟩ := h
          refine qr_iald hx hb hG hL34 fK35 hi36 rfl dX7_leave_52 ?_
          refine lv_topi (fun v37 ev37 => ?_)
          have h := h v37 ev37
          refine lv_if_ne (tgt := 60) hx hb dX7_leave_53 (by decide) (fun c38 => ?_) (fun c38 => ?_)
          · have h := h.1 c38
            exact b60 K21 hK21 S a0 x1 x2 x3 a0 _ _ ls h hG (lv_sub hl [0, 1, 2, 3] rfl)
          · have h := h.2 c38
            refine lv_iconst (v := (2 : Int32)) hx hb dX7_leave_56 (by decide +kernel) ?_
            refine lv_goto (tgt := 61) hx hb dX7_leave_57 (by decide) ?_
            exact b61 K21 hK21 S a0 x1 x2 x3 a0 (2 : Int32) _ _ ls h hG (lv_sub hl [0, 1, 2, 3] rfl)
  have b21 : ∀ n9 : Nat, ∀ (S : qs_S) (a0 : Nat) (x1 : Int32) (x2 : Int32) (x3 : Int32) (H : Heap) (locs : List Loc) (ls : Array Slot), wp_X7_leave_b21 g.2.2.2.2.2.2.1 g.2.2.2.2.2.2.2 post n9 S a0 x1 x2 x3 → qs_Gd g (qs_F g SA s.heap.size) s S H locs → lv_has ls 4 [(0, .ref a0), (1, .int x1), (2, .int x2), (3, .int x3)] → W p l e (headSpec wsX7_leave ({ frames := 2, cells := 0, slots := 0, locals := 43 } : Room)).room s m (([.ref a0z, .int x1z] : List Value)).toArray below meth c H locs 0 0 (MQ below (qs_Qi g (qs_F g SA s.heap.size) post) (([.ref a0z, .int x1z] : List Value)).toArray s 0 0 (qs_F g SA s.heap.size)) (F0 m 21 ls []) := by
    intro n9
    induction n9 with
    | zero =>
      intro S a0 x1 x2 x3 H locs ls h hG hl
      exact False.elim h
    | succ n9 ih => exact c21 _ ih
  have b14 : ∀ (S : qs_S) (a0 : Nat) (x1 : Int32) (r0 : Nat) (s1 : Int32) (H : Heap) (locs : List Loc) (ls : Array Slot), wp_X7_leave_b14 g.2.2.2.2.2.2.1 g.2.2.2.2.2.2.2 post S a0 x1 r0 s1 → qs_Gd g (qs_F g SA s.heap.size) s S H locs → lv_has ls 4 [(0, .ref a0), (1, .int x1)] → W p l e (headSpec wsX7_leave ({ frames := 2, cells := 0, slots := 0, locals := 43 } : Room)).room s m (([.ref a0z, .int x1z] : List Value)).toArray below meth c H locs 0 0 (MQ below (qs_Qi g (qs_F g SA s.heap.size) post) (([.ref a0z, .int x1z] : List Value)).toArray s 0 0 (qs_F g SA s.heap.size)) (F0 m 14 ls [.int s1, .ref r0]) := by
    intro S a0 x1 r0 s1 H locs ls h hG hl
    unfold wp_X7_leave_b14 at h
    obtain ⟨⟨hL39, fK40⟩, h⟩ := h
    refine qr_putI (C := RX7) (T := TX7) (N := 35) (ci := 7) hx hb hts in7 tyX7 tyX7_ok nmX7 hown hG hL39 fK40 (by decide) rfl 0 (by decide) rfl (hts (.fieldLink RX7 95 "QuayMeshModel" "thrown" "I") (List.mem_of_getElem? (i := 1) rfl)) (fun _ h9 => h9) rfl (x := s1) (tyX7_ok 0 (by decide)) rfl rfl dX7_leave_14 (fun H locs hG => ?_)
    refine lv_iconst (v := (0 : Int32)) hx hb dX7_leave_17 (by decide +kernel) ?_
    refine lv_istore_n (lv' := [(2, .int (0 : Int32)), (0, .ref a0), (1, .int x1)]) hx hb dX7_leave_18 rfl hl (by decide) rfl (fun ls hl => ?_)
    refine lv_iconst (v := (0 : Int32)) hx hb dX7_leave_19 (by decide +kernel) ?_
    refine lv_istore_n (lv' := [(3, .int (0 : Int32)), (2, .int (0 : Int32)), (0, .ref a0), (1, .int x1)]) hx hb dX7_leave_20 rfl hl (by decide) rfl (fun ls hl => ?_)
    obtain ⟨n41, h⟩ := h
    exact b21 n41 (qs_wI S 0 r0 s1) a0 x1 (0 : Int32) (0 : Int32) _ _ ls h hG (lv_sub hl [2, 3, 1, 0] rfl)
  have hl := lv_entry ([.ref a0z, .int x1z]) (n := 4) (Nat.le_of_ble_eq_true rfl)
  rw [lg_entry_eq]
  generalize (lg_sl ([.ref a0z, .int x1z]) ++ List.replicate (4 - (lg_sl ([.ref a0z, .int x1z])).length) Slot.unset).toArray = ls at hl ⊢
  have hl : lv_has ls 4 [(0, .ref a0z), (1, .int x1z)] := hl
  unfold wp_X7_leave at h
  refine lv_aload_n hx hb dX7_leave_0 rfl (lv_at hl 0 rfl) ?_
  refine lv_aload_n hx hb dX7_leave_1 rfl (lv_at hl 0 rfl) ?_
  refine lv_iload_n hx hb dX7_leave_2 rfl (lv_at hl 1 rfl) ?_
  obtain ⟨⟨hL44, fK45⟩, h⟩ := h
  refine qc_i hG (va_runV (As := [.int x1z]) (rest := [.ref a0z]) ⟨hx, hb, hml, hown, hts⟩ (c_X7_isShip l g _ SA a0z x1z h) (cwV 1 hts gX7_leave_X7_isShip rfl rfl rfl (by decide +kernel) ⟨(Nat.le_of_ble_eq_true rfl), (Nat.le_of_ble_eq_true rfl)⟩) ⟨qs_Pc.blind _ _ _ _, hG.recv hL44 fK45 (by decide) rfl, hG.pre _⟩ rfl rfl hl.1 rfl (lv_room (Nat.le_of_ble_eq_true rfl)) dX7_leave_3 ⟨Nat.zero_le _, Nat.zero_le _⟩) (fun v47 S46 H locs h hG => ?_)
  refine lv_if_eq (tgt := 13) hx hb dX7_leave_6 (by decide) (fun c48 => ?_) (fun c48 => ?_)
  · have h := h.1 c48
    refine lv_iconst (v := (1 : Int32)) hx hb dX7_leave_13 (by decide +kernel) ?_
    exact b14 S46 a0z x1z a0z (1 : Int32) _ _ ls h hG (lv_sub hl [0, 1] rfl)
  · have h := h.2 c48
    refine lv_iconst (v := (0 : Int32)) hx hb dX7_leave_9 (by decide +kernel) ?_
    refine lv_goto (tgt := 14) hx hb dX7_leave_10 (by decide) ?_
    exact b14 S46 a0z x1z a0z (0 : Int32) _ _ ls h hG (lv_sub hl [0, 1] rfl)
def wp_X7_joins (t0 m9 : Nat) (post : qs_S → Prop) (SA : qs_S) (a0z : Nat) (x1z : Int32) (x2z : Int32) : Prop := (a0z ∈ qs_L SA ∧ qs_K SA a0z = 7) ∧ (∃ q3 : Nat, qs_R SA 30 a0z = some q3 ∧ (∀ v4 : Int32, v4 = (80 : Int32) * x1z → ∃ q5 : Nat, qs_R SA 29 a0z = some q5 ∧ ((q5 ∈ qs_L SA ∧ qs_K SA q5 = 8) ∧ (vp_in x1z (qs_Z SA q5) ∧ (∀ v9 : Int32, v9 = qs_A SA q5 x1z.toNatClampNeg → ∀ v10 : Int32, v10 = v4 + v9 → (q3 ∈ qs_L SA ∧ qs_K SA q3 = 8) ∧ (vp_in v10 (qs_Z SA q3) ∧ (∃ q14 : Nat, qs_R (qs_wA SA q3 v10.toNatClampNeg x2z) 29 a0z = some q14 ∧ ((q14 ∈ qs_L (qs_wA SA q3 v10.toNatClampNeg x2z) ∧ qs_K (qs_wA SA q3 v10.toNatClampNeg x2z) q14 = 8) ∧ (vp_in x1z (qs_Z (qs_wA SA q3 v10.toNatClampNeg x2z) q14) ∧ (∀ v18 : Int32, v18 = qs_A (qs_wA SA q3 v10.toNatClampNeg x2z) q14 x1z.toNatClampNeg → ∀ v19 : Int32, v19 = v18 + (1 : Int32) → vp_in x1z (qs_Z (qs_wA SA q3 v10.toNatClampNeg x2z) q14) ∧ (post (qs_wA (qs_wA SA q3 v10.toNatClampNeg x2z) q14 x1z.toNatClampNeg v19))))))))))))
set_option maxHeartbeats 4000000 in
set_option maxRecDepth 100000 in
theorem c_X7_joins (l : Launch) (g : qs_G) (sz : Nat) (SA : qs_S) (a0z : Nat) (x1z : Int32) (x2z : Int32) {post : qs_S → Prop} (h : wp_X7_joins g.2.2.2.2.2.2.1 g.2.2.2.2.2.2.2 post SA a0z x1z x2z) : Met l yX7_joins wsX7_joins ({ frames := 0, cells := 0, slots := 0, locals := 0 } : Room) (qs_Pc g sz SA [.ref a0z, .int x1z, .int x2z]) (qs_Qv g (qs_F g SA sz) post) 0 0 (qs_F g SA sz) := by
  refine Met.ofW (cc := cX7_joins) (maxL := 3) (ret := none) (by decide +kernel) rfl ?_
  intro p e s m args below meth c s₁ B hml hv
  obtain ⟨rfl, hsz, hG⟩ := qs_Gd.start hv
  subst hsz
  have hx := B.exec
  have hb := B.bytes
  have hr := B.returns
  have hts := atoms_spec (ws := wsX7_joins) B.pre
  have hown : s.vm.findClass RX7 = some m.cls := findClass_of_methodNamed B.named
  have hlk := B.notSynchronized
  have in7 : ∀ w ∈ u_ws RX7 TX7 35, w ∈ wsX7_joins := fun w h => List.mem_cons_of_mem _ (List.mem_append_right _ (h))
  have hl := lv_entry ([.ref a0z, .int x1z, .int x2z]) (n := 3) (Nat.le_of_ble_eq_true rfl)
  rw [lg_entry_eq]
  generalize (lg_sl ([.ref a0z, .int x1z, .int x2z]) ++ List.replicate (3 - (lg_sl ([.ref a0z, .int x1z, .int x2z])).length) Slot.unset).toArray = ls at hl ⊢
  have hl : lv_has ls 3 [(0, .ref a0z), (1, .int x1z), (2, .int x2z)] := hl
  unfold wp_X7_joins at h
  refine lv_aload_n hx hb dX7_joins_0 rfl (lv_at hl 0 rfl) ?_
  obtain ⟨⟨hL1, fK2⟩, h⟩ := h
  obtain ⟨q3, eq3, h⟩ := h
  refine qr_get (C := RX7) (T := TX7) (N := 35) (ci := 7) hx hb hts in7 hown hG hL1 fK2 (by decide) rfl 30 (by decide) rfl (hts (.fieldLink RX7 80 "QuayMeshModel" "queue" "[I") (List.mem_of_getElem? (i := 1) rfl)) (fun _ h9 => h9) (v := .ref q3) (qs_rf eq3) dX7_joins_1 ?_
  refine lv_bipush (v := (80 : Int32)) hx hb dX7_joins_4 (by decide +kernel) ?_
  refine lv_iload_n hx hb dX7_joins_6 rfl (lv_at hl 1 rfl) ?_
  refine lv_imul hx hb dX7_joins_7 ?_
  refine lv_topi (fun v4 ev4 => ?_)
  have h := h v4 ev4
  refine lv_aload_n hx hb dX7_joins_8 rfl (lv_at hl 0 rfl) ?_
  obtain ⟨q5, eq5, h⟩ := h
  refine qr_get (C := RX7) (T := TX7) (N := 35) (ci := 7) hx hb hts in7 hown hG hL1 fK2 (by decide) rfl 29 (by decide) rfl (hts (.fieldLink RX7 77 "QuayMeshModel" "many" "[I") (List.mem_of_getElem? (i := 2) rfl)) (fun _ h9 => h9) (v := .ref q5) (qs_rf eq5) dX7_joins_9 ?_
  refine lv_iload_n hx hb dX7_joins_12 rfl (lv_at hl 1 rfl) ?_
  obtain ⟨⟨hL6, fK7⟩, h⟩ := h
  obtain ⟨hi8, h⟩ := h
  refine qr_iald hx hb hG hL6 fK7 hi8 rfl dX7_joins_13 ?_
  refine lv_topi (fun v9 ev9 => ?_)
  have h := h v9 ev9
  refine lv_iadd hx hb dX7_joins_14 ?_
  refine lv_topi (fun v10 ev10 => ?_)
  have h := h v10 ev10
  refine lv_iload_n hx hb dX7_joins_15 rfl (lv_at hl 2 rfl) ?_
  obtain ⟨⟨hL11, fK12⟩, h⟩ := h
  obtain ⟨hi13, h⟩ := h
  refine qr_iast hx hb hG hL11 fK12 hi13 dX7_joins_16 (fun H locs hG => ?_)
  refine lv_aload_n hx hb dX7_joins_17 rfl (lv_at hl 0 rfl) ?_
  obtain ⟨q14, eq14, h⟩ := h
  refine qr_get (C := RX7) (T := TX7) (N := 35) (ci := 7) hx hb hts in7 hown hG hL1 fK2 (by decide) rfl 29 (by decide) rfl (hts (.fieldLink RX7 77 "QuayMeshModel" "many" "[I") (List.mem_of_getElem? (i := 2) rfl)) (fun _ h9 => h9) (v := .ref q14) (qs_rf eq14) dX7_joins_18 ?_
  refine lv_iload_n hx hb dX7_joins_21 rfl (lv_at hl 1 rfl) ?_
  refine lv_dup2_11 hx hb dX7_joins_22 rfl rfl ?_
  obtain ⟨⟨hL15, fK16⟩, h⟩ := h
  obtain ⟨hi17, h⟩ := h
  refine qr_iald hx hb hG hL15 fK16 hi17 rfl dX7_joins_23 ?_
  refine lv_topi (fun v18 ev18 => ?_)
  have h := h v18 ev18
  refine lv_iconst (v := (1 : Int32)) hx hb dX7_joins_24 (by decide +kernel) ?_
  refine lv_iadd hx hb dX7_joins_25 ?_
  refine lv_topi (fun v19 ev19 => ?_)
  have h := h v19 ev19
  obtain ⟨hi20, h⟩ := h
  refine qr_iast hx hb hG hL15 fK16 hi20 dX7_joins_26 (fun H locs hG => ?_)
  exact qe_v hx hb hr hlk hG h (Nat.le_refl _) (Nat.le_refl _) dX7_joins_27
def wp_X7_quits_b55 (t0 m9 : Nat) (post : qs_S → Prop) (K5 : qs_S → Nat → Int32 → Int32 → Int32 → Int32 → Prop) (S : qs_S) (a0 : Nat) (x1 : Int32) (x2 : Int32) (x4 : Int32) (s0 : Int32) (s1 : Int32) : Prop := ∀ v1 : Int32, v1 = s0 + s1 → ∀ v2 : Int32, v2 = x4 + 1 → K5 S a0 x1 x2 v1 v2
def wp_X7_quits_c5 (t0 m9 : Nat) (post : qs_S → Prop) (K5 : qs_S → Nat → Int32 → Int32 → Int32 → Int32 → Prop) (S : qs_S) (a0 : Nat) (x1 : Int32) (x2 : Int32) (x3 : Int32) (x4 : Int32) : Prop := (a0 ∈ qs_L S ∧ qs_K S a0 = 7) ∧ (∃ q5 : Nat, qs_R S 29 a0 = some q5 ∧ ((q5 ∈ qs_L S ∧ qs_K S q5 = 8) ∧ (vp_in x1 (qs_Z S q5) ∧ (∀ v9 : Int32, v9 = qs_A S q5 x1.toNatClampNeg → (v9 ≤ x4 → (∃ q11 : Nat, qs_R S 29 a0 = some q11 ∧ ((q11 ∈ qs_L S ∧ qs_K S q11 = 8) ∧ (vp_in x1 (qs_Z S q11) ∧ (post (qs_wA S q11 x1.toNatClampNeg x3)))))) ∧ (¬ v9 ≤ x4 → (∃ q15 : Nat, qs_R S 30 a0 = some q15 ∧ (∀ v16 : Int32, v16 = (80 : Int32) * x1 → ∀ v17 : Int32, v17 = v16 + x4 → (q15 ∈ qs_L S ∧ qs_K S q15 = 8) ∧ (vp_in v17 (qs_Z S q15) ∧ (∀ v21 : Int32, v21 = qs_A S q15 v17.toNatClampNeg → ∃ q22 : Nat, qs_R S 30 a0 = some q22 ∧ (∀ v23 : Int32, v23 = (80 : Int32) * x1 → ∀ v24 : Int32, v24 = v23 + x3 → (q22 ∈ qs_L S ∧ qs_K S q22 = 8) ∧ (vp_in v24 (qs_Z S q22) ∧ ((¬ v21 = x2 → (wp_X7_quits_b55 t0 m9 post K5 (qs_wA S q22 v24.toNatClampNeg v21) a0 x1 x2 x4 x3 (1 : Int32))) ∧ (v21 = x2 → (wp_X7_quits_b55 t0 m9 post K5 (qs_wA S q22 v24.toNatClampNeg v21) a0 x1 x2 x4 x3 (0 : Int32)))))))))))))))
def wp_X7_quits_b5 (t0 m9 : Nat) (post : qs_S → Prop) : Nat → qs_S → Nat → Int32 → Int32 → Int32 → Int32 → Prop
  | 0 => fun _ _ _ _ _ _ => False
  | n9 + 1 => wp_X7_quits_c5 t0 m9 post (wp_X7_quits_b5 t0 m9 post n9)
def wp_X7_quits (t0 m9 : Nat) (post : qs_S → Prop) (SA : qs_S) (a0z : Nat) (x1z : Int32) (x2z : Int32) : Prop := ∃ n29 : Nat, wp_X7_quits_b5 t0 m9 post n29 SA a0z x1z x2z (0 : Int32) (0 : Int32)
set_option maxHeartbeats 4000000 in
set_option maxRecDepth 100000 in
theorem c_X7_quits (l : Launch) (g : qs_G) (sz : Nat) (SA : qs_S) (a0z : Nat) (x1z : Int32) (x2z : Int32) {post : qs_S → Prop} (h : wp_X7_quits g.2.2.2.2.2.2.1 g.2.2.2.2.2.2.2 post SA a0z x1z x2z) : Met l yX7_quits wsX7_quits ({ frames := 0, cells := 0, slots := 0, locals := 0 } : Room) (qs_Pc g sz SA [.ref a0z, .int x1z, .int x2z]) (qs_Qv g (qs_F g SA sz) post) 0 0 (qs_F g SA sz) := by
  refine Met.ofW (cc := cX7_quits) (maxL := 6) (ret := none) (by decide +kernel) rfl ?_
  intro p e s m args below meth c s₁ B hml hv
  obtain ⟨rfl, hsz, hG⟩ := qs_Gd.start hv
  subst hsz
  have hx := B.exec
  have hb := B.bytes
  have hr := B.returns
  have hts := atoms_spec (ws := wsX7_quits) B.pre
  have hown : s.vm.findClass RX7 = some m.cls := findClass_of_methodNamed B.named
  have hlk := B.notSynchronized
  have in7 : ∀ w ∈ u_ws RX7 TX7 35, w ∈ wsX7_quits := fun w h => List.mem_cons_of_mem _ (List.mem_append_right _ (h))
  have b55 : ∀ (K5 : qs_S → Nat → Int32 → Int32 → Int32 → Int32 → Prop), (∀ (S : qs_S) (a0 : Nat) (x1 : Int32) (x2 : Int32) (x3 : Int32) (x4 : Int32) (H : Heap) (locs : List Loc) (ls : Array Slot), K5 S a0 x1 x2 x3 x4 → qs_Gd g (qs_F g SA s.heap.size) s S H locs → lv_has ls 6 [(0, .ref a0), (1, .int x1), (2, .int x2), (3, .int x3), (4, .int x4)] → W p l e (headSpec wsX7_quits ({ frames := 0, cells := 0, slots := 0, locals := 0 } : Room)).room s m (([.ref a0z, .int x1z, .int x2z] : List Value)).toArray below meth c H locs 0 0 (MQ below (qs_Qv g (qs_F g SA s.heap.size) post) (([.ref a0z, .int x1z, .int x2z] : List Value)).toArray s 0 0 (qs_F g SA s.heap.size)) (F0 m 5 ls [])) → ∀ (S : qs_S) (a0 : Nat) (x1 : Int32) (x2 : Int32) (x4 : Int32) (s0 : Int32) (s1 : Int32) (H : Heap) (locs : List Loc) (ls : Array Slot), wp_X7_quits_b55 g.2.2.2.2.2.2.1 g.2.2.2.2.2.2.2 post K5 S a0 x1 x2 x4 s0 s1 → qs_Gd g (qs_F g SA s.heap.size) s S H locs → lv_has ls 6 [(0, .ref a0), (1, .int x1), (2, .int x2), (4, .int x4)] → W p l e (headSpec wsX7_quits ({ frames := 0, cells := 0, slots := 0, locals := 0 } : Room)).room s m (([.ref a0z, .int x1z, .int x2z] : List Value)).toArray below meth c H locs 0 0 (MQ below (qs_Qv g (qs_F g SA s.heap.size) post) (([.ref a0z, .int x1z, .int x2z] : List Value)).toArray s 0 0 (qs_F g SA s.heap.size)) (F0 m 55 ls [.int s1, .int s0]) := by
    intro K5 hK5 S a0 x1 x2 x4 s0 s1 H locs ls h hG hl
    unfold wp_X7_quits_b55 at h
    refine lv_iadd hx hb dX7_quits_55 ?_
    refine lv_topi (fun v1 ev1 => ?_)
    have h := h v1 ev1
    refine lv_istore_n (lv' := [(3, .int v1), (0, .ref a0), (1, .int x1), (2, .int x2), (4, .int x4)]) hx hb dX7_quits_56 rfl hl (by decide) rfl (fun ls hl => ?_)
    obtain ⟨v2, ev2⟩ : ∃ y : Int32, y = x4 + 1 := ⟨_, rfl⟩
    have h := h v2 ev2
    refine lv_iinc (v := v2) (lv' := [(4, .int v2), (3, .int v1), (0, .ref a0), (1, .int x1), (2, .int x2)]) hx hb dX7_quits_57 hl (k := 4) rfl (by rw [ev2]; rfl) (by decide) rfl (fun ls hl => ?_)
    refine lv_goto (tgt := 5) hx hb dX7_quits_60 (by decide) ?_
    exact hK5 S a0 x1 x2 v1 v2 _ _ ls h hG (lv_sub hl [2, 3, 4, 1, 0] rfl)
  have c5 : ∀ (K5 : qs_S → Nat → Int32 → Int32 → Int32 → Int32 → Prop), (∀ (S : qs_S) (a0 : Nat) (x1 : Int32) (x2 : Int32) (x3 : Int32) (x4 : Int32) (H : Heap) (locs : List Loc) (ls : Array Slot), K5 S a0 x1 x2 x3 x4 → qs_Gd g (qs_F g SA s.heap.size) s S H locs → lv_has ls 6 [(0, .ref a0), (1, .int x1), (2, .int x2), (3, .int x3), (4, .int x4)] → W p l e (headSpec wsX7_quits ({ frames := 0, cells := 0, slots := 0, locals := 0 } : Room)).room s m (([.ref a0z, .int x1z, .int x2z] : List Value)).toArray below meth c H locs 0 0 (MQ below (qs_Qv g (qs_F g SA s.heap.size) post) (([.ref a0z, .int x1z, .int x2z] : List Value)).toArray s 0 0 (qs_F g SA s.heap.size)) (F0 m 5 ls [])) → ∀ (S : qs_S) (a0 : Nat) (x1 : Int32) (x2 : Int32) (x3 : Int32) (x4 : Int32) (H : Heap) (locs : List Loc) (ls : Array Slot), wp_X7_quits_c5 g.2.2.2.2.2.2.1 g.2.2.2.2.2.2.2 post K5 S a0 x1 x2 x3 x4 → qs_Gd g (qs_F g SA s.heap.size) s S H locs → lv_has ls 6 [(0, .ref a0), (1, .int x1), (2, .int x2), (3, .int x3), (4, .int x4)] → W p l e (headSpec wsX7_quits ({ frames := 0, cells := 0, slots := 0, locals := 0 } : Room)).room s m (([.ref a0z, .int x1z, .int x2z] : List Value)).toArray below meth c H locs 0 0 (MQ below (qs_Qv g (qs_F g SA s.heap.size) post) (([.ref a0z, .int x1z, .int x2z] : List Value)).toArray s 0 0 (qs_F g SA s.heap.size)) (F0 m 5 ls []) := by
    intro K5 hK5 S a0 x1 x2 x3 x4 H locs ls h hG hl
    unfold wp_X7_quits_c5 at h
    refine lv_iload hx hb dX7_quits_5 (lv_at hl 4 rfl) ?_
    refine lv_aload_n hx hb dX7_quits_7 rfl (lv_at hl 0 rfl) ?_
    obtain ⟨⟨hL3, fK4⟩, h⟩ := h
    obtain ⟨q5, eq5, h⟩ := h
    refine qr_get (C := RX7) (T := TX7) (N := 35) (ci := 7) hx hb hts in7 hown hG hL3 fK4 (by decide) rfl 29 (by decide) rfl (hts (.fieldLink RX7 77 "QuayMeshModel" "many" "[I") (List.mem_of_getElem? (i := 1) rfl)) (fun _ h9 => h9) (v := .ref q5) (qs_rf eq5) dX7_quits_8 ?_
    refine lv_iload_n hx hb dX7_quits_11 rfl (lv_at hl 1 rfl) ?_
    obtain ⟨⟨hL6, fK7⟩, h⟩ := h
    obtain ⟨hi8, h⟩ := h
    refine qr_iald hx hb hG hL6 fK7 hi8 rfl dX7_quits_12 ?_
    refine lv_topi (fun v9 ev9 => ?_)
    have h := h v9 ev9
    refine lv_icmp_ge (tgt := 63) hx hb dX7_quits_13 (by decide) (fun c10 => ?_) (fun c10 => ?_)
    · have h := h.1 c10
      refine lv_aload_n hx hb dX7_quits_63 rfl (lv_at hl 0 rfl) ?_
      obtain ⟨q11, eq11, h⟩ := h
      refine qr_get (C := RX7) (T := TX7) (N := 35) (ci := 7) hx hb hts in7 hown hG hL3 fK4 (by decide) rfl 29 (by decide) rfl (hts (.fieldLink RX7 77 "QuayMeshModel" "many" "[I") (List.mem_of_getElem? (i := 1) rfl)) (fun _ h9 => h9) (v := .ref q11) (qs_rf eq11) dX7_quits_64 ?_
      refine lv_iload_n hx hb dX7_quits_67 rfl (lv_at hl 1 rfl) ?_
      refine lv_iload_n hx hb dX7_quits_68 rfl (lv_at hl 3 rfl) ?_
      obtain ⟨⟨hL12, fK13⟩, h⟩ := h
      obtain ⟨hi14, h⟩ := h
      refine qr_iast hx hb hG hL12 fK13 hi14 dX7_quits_69 (fun H locs hG => ?_)
      exact qe_v hx hb hr hlk hG h (Nat.le_refl _) (Nat.le_refl _) dX7_quits_70
    · have h := h.2 c10
      refine lv_aload_n hx hb dX7_quits_16 rfl (lv_at hl 0 rfl) ?_
      obtain ⟨q15, eq15, h⟩ := h
      refine qr_get (C := RX7) (T := TX7) (N := 35) (ci := 7) hx hb hts in7 hown hG hL3 fK4 (by decide) rfl 30 (by decide) rfl (hts (.fieldLink RX7 80 "QuayMeshModel" "queue" "[I") (List.mem_of_getElem? (i := 2) rfl)) (fun _ h9 => h9) (v := .ref q15) (qs_rf eq15) dX7_quits_17 ?_
      refine lv_bipush (v := (80 : Int32)) hx hb dX7_quits_20 (by decide +kernel) ?_
      refine lv_iload_n hx hb dX7_quits_22 rfl (lv_at hl 1 rfl) ?_
      refine lv_imul hx hb dX7_quits_23 ?_
      refine lv_topi (fun v16 ev16 => ?_)
      have h := h v16 ev16
      refine lv_iload hx hb dX7_quits_24 (lv_at hl 4 rfl) ?_
      refine lv_iadd hx hb dX7_quits_26 ?_
      refine lv_topi (fun v17 ev17 => ?_)
      have h := h v17 ev17
      obtain ⟨⟨hL18, fK19⟩, h⟩ := h
      obtain ⟨hi20, h⟩ := h
      refine qr_iald hx hb hG hL18 fK19 hi20 rfl dX7_quits_27 ?_
      refine lv_topi (fun v21 ev21 => ?_)
      have h := h v21 ev21
      refine lv_istore (lv' := [(5, .int v21), (0, .ref a0), (1, .int x1), (2, .int x2), (3, .int x3), (4, .int x4)]) hx hb dX7_quits_28 hl (by decide) rfl (fun ls hl => ?_)
      refine lv_aload_n hx hb dX7_quits_30 rfl (lv_at hl 1 rfl) ?_
      obtain ⟨q22, eq22, h⟩ := h
      refine qr_get (C := RX7) (T := TX7) (N := 35) (ci := 7) hx hb hts in7 hown hG hL3 fK4 (by decide) rfl 30 (by decide) rfl (hts (.fieldLink RX7 80 "QuayMeshModel" "queue" "[I") (List.mem_of_getElem? (i := 2) rfl)) (fun _ h9 => h9) (v := .ref q22) (qs_rf eq22) dX7_quits_31 ?_
      refine lv_bipush (v := (80 : Int32)) hx hb dX7_quits_34 (by decide +kernel) ?_
      refine lv_iload_n hx hb dX7_quits_36 rfl (lv_at hl 2 rfl) ?_
      refine lv_imul hx hb dX7_quits_37 ?_
      refine lv_topi (fun v23 ev23 => ?_)
      have h := h v23 ev23
      refine lv_iload_n hx hb dX7_quits_38 rfl (lv_at hl 4 rfl) ?_
      refine lv_iadd hx hb dX7_quits_39 ?_
      refine lv_topi (fun v24 ev24 => ?_)
      have h := h v24 ev24
      refine lv_iload hx hb dX7_quits_40 (lv_at hl 0 rfl) ?_
      obtain ⟨⟨hL25, fK26⟩, h⟩ := h
      obtain ⟨hi27, h⟩ := h
      refine qr_iast hx hb hG hL25 fK26 hi27 dX7_quits_42 (fun H locs hG => ?_)
      refine lv_iload_n hx hb dX7_quits_43 rfl (lv_at hl 4 rfl) ?_
      refine lv_iload hx hb dX7_quits_44 (lv_at hl 0 rfl) ?_
      refine lv_iload_n hx hb dX7_quits_46 rfl (lv_at hl 3 rfl) ?_
      refine lv_icmp_ne (tgt := 54) hx hb dX7_quits_47 (by decide) (fun c28 => ?_) (fun c28 => ?_)
      · have h := h.1 c28
        refine lv_iconst (v := (1 : Int32)) hx hb dX7_quits_54 (by decide +kernel) ?_
        exact b55 K5 hK5 (qs_wA S q22 v24.toNatClampNeg v21) a0 x1 x2 x4 x3 (1 : Int32) _ _ ls h hG (lv_sub hl [1, 2, 3, 5] rfl)
      · have h := h.2 c28
        refine lv_iconst (v := (0 : Int32)) hx hb dX7_quits_50 (by decide +kernel) ?_
        refine lv_goto (tgt := 55) hx hb dX7_quits_51 (by decide) ?_
        exact b55 K5 hK5 (qs_wA S q22 v24.toNatClampNeg v21) a0 x1 x2 x4 x3 (0 : Int32) _ _ ls h hG (lv_sub hl [1, 2, 3, 5] rfl)
  have b5 : ∀ n9 : Nat, ∀ (S : qs_S) (a0 : Nat) (x1 : Int32) (x2 : Int32) (x3 : Int32) (x4 : Int32) (H : Heap) (locs : List Loc) (ls : Array Slot), wp_X7_quits_b5 g.2.2.2.2.2.2.1 g.2.2.2.2.2.2.2 post n9 S a0 x1 x2 x3 x4 → qs_Gd g (qs_F g SA s.heap.size) s S H locs → lv_has ls 6 [(0, .ref a0), (1, .int x1), (2, .int x2), (3, .int x3), (4, .int x4)] → W p l e (headSpec wsX7_quits ({ frames := 0, cells := 0, slots := 0, locals := 0 } : Room)).room s m (([.ref a0z, .int x1z, .int x2z] : List Value)).toArray below meth c H locs 0 0 (MQ below (qs_Qv g (qs_F g SA s.heap.size) post) (([.ref a0z, .int x1z, .int x2z] : List Value)).toArray s 0 0 (qs_F g SA s.heap.size)) (F0 m 5 ls []) := by
    intro n9
    induction n9 with
    | zero =>
      intro S a0 x1 x2 x3 x4 H locs ls h hG hl
      exact False.elim h
    | succ n9 ih => exact c5 _ ih
  have hl := lv_entry ([.ref a0z, .int x1z, .int x2z]) (n := 6) (Nat.le_of_ble_eq_true rfl)
  rw [lg_entry_eq]
  generalize (lg_sl ([.ref a0z, .int x1z, .int x2z]) ++ List.replicate (6 - (lg_sl ([.ref a0z, .int x1z, .int x2z])).length) Slot.unset).toArray = ls at hl ⊢
  have hl : lv_has ls 6 [(0, .ref a0z), (1, .int x1z), (2, .int x2z)] := hl
  unfold wp_X7_quits at h
  refine lv_iconst (v := (0 : Int32)) hx hb dX7_quits_0 (by decide +kernel) ?_
  refine lv_istore_n (lv' := [(3, .int (0 : Int32)), (0, .ref a0z), (1, .int x1z), (2, .int x2z)]) hx hb dX7_quits_1 rfl hl (by decide) rfl (fun ls hl => ?_)
  refine lv_iconst (v := (0 : Int32)) hx hb dX7_quits_2 (by decide +kernel) ?_
  refine lv_istore (lv' := [(4, .int (0 : Int32)), (3, .int (0 : Int32)), (0, .ref a0z), (1, .int x1z), (2, .int x2z)]) hx hb dX7_quits_3 hl (by decide) rfl (fun ls hl => ?_)
  obtain ⟨n29, h⟩ := h
  exact b5 n29 SA a0z x1z x2z (0 : Int32) (0 : Int32) _ _ ls h hG (lv_sub hl [2, 3, 4, 1, 0] rfl)
def wp_X7_isIn_b41 (t0 m9 : Nat) (post : Int32 → qs_S → Prop) (K5 : qs_S → Nat → Int32 → Int32 → Int32 → Int32 → Prop) (S : qs_S) (a0 : Nat) (x1 : Int32) (x2 : Int32) (x4 : Int32) (s0 : Int32) : Prop := ∀ v1 : Int32, v1 = x4 + 1 → K5 S a0 x1 x2 s0 v1
def wp_X7_isIn_b36 (t0 m9 : Nat) (post : Int32 → qs_S → Prop) (K5 : qs_S → Nat → Int32 → Int32 → Int32 → Int32 → Prop) (S : qs_S) (a0 : Nat) (x1 : Int32) (x2 : Int32) (x4 : Int32) : Prop := wp_X7_isIn_b41 t0 m9 post K5 S a0 x1 x2 x4 (1 : Int32)
def wp_X7_isIn_c5 (t0 m9 : Nat) (post : Int32 → qs_S → Prop) (K5 : qs_S → Nat → Int32 → Int32 → Int32 → Int32 → Prop) (S : qs_S) (a0 : Nat) (x1 : Int32) (x2 : Int32) (x3 : Int32) (x4 : Int32) : Prop := (a0 ∈ qs_L S ∧ qs_K S a0 = 7) ∧ (∃ q4 : Nat, qs_R S 29 a0 = some q4 ∧ ((q4 ∈ qs_L S ∧ qs_K S q4 = 8) ∧ (vp_in x1 (qs_Z S q4) ∧ (∀ v8 : Int32, v8 = qs_A S q4 x1.toNatClampNeg → (v8 ≤ x4 → ((x3 = 0 ∨ x3 = 1) ∧ post x3 S)) ∧ (¬ v8 ≤ x4 → ((¬ x3 = 0 → (wp_X7_isIn_b36 t0 m9 post K5 S a0 x1 x2 x4)) ∧ (x3 = 0 → (∃ q12 : Nat, qs_R S 30 a0 = some q12 ∧ (∀ v13 : Int32, v13 = (80 : Int32) * x1 → ∀ v14 : Int32, v14 = v13 + x4 → (q12 ∈ qs_L S ∧ qs_K S q12 = 8) ∧ (vp_in v14 (qs_Z S q12) ∧ (∀ v18 : Int32, v18 = qs_A S q12 v14.toNatClampNeg → (¬ v18 = x2 → (wp_X7_isIn_b41 t0 m9 post K5 S a0 x1 x2 x4 (0 : Int32))) ∧ (v18 = x2 → (wp_X7_isIn_b36 t0 m9 post K5 S a0 x1 x2 x4)))))))))))))
def wp_X7_isIn_b5 (t0 m9 : Nat) (post : Int32 → qs_S → Prop) : Nat → qs_S → Nat → Int32 → Int32 → Int32 → Int32 → Prop
  | 0 => fun _ _ _ _ _ _ => False
  | n9 + 1 => wp_X7_isIn_c5 t0 m9 post (wp_X7_isIn_b5 t0 m9 post n9)
def wp_X7_isIn (t0 m9 : Nat) (post : Int32 → qs_S → Prop) (SA : qs_S) (a0z : Nat) (x1z : Int32) (x2z : Int32) : Prop := ∃ n20 : Nat, wp_X7_isIn_b5 t0 m9 post n20 SA a0z x1z x2z (0 : Int32) (0 : Int32)
set_option maxHeartbeats 4000000 in
set_option maxRecDepth 100000 in
theorem c_X7_isIn (l : Launch) (g : qs_G) (sz : Nat) (SA : qs_S) (a0z : Nat) (x1z : Int32) (x2z : Int32) {post : Int32 → qs_S → Prop} (h : wp_X7_isIn g.2.2.2.2.2.2.1 g.2.2.2.2.2.2.2 post SA a0z x1z x2z) : Met l yX7_isIn wsX7_isIn ({ frames := 0, cells := 0, slots := 0, locals := 0 } : Room) (qs_Pc g sz SA [.ref a0z, .int x1z, .int x2z]) (qs_Qi g (qs_F g SA sz) post) 0 0 (qs_F g SA sz) := by
  refine Met.ofW (cc := cX7_isIn) (maxL := 5) (ret := (some .boolean)) (by decide +kernel) rfl ?_
  intro p e s m args below meth c s₁ B hml hv
  obtain ⟨rfl, hsz, hG⟩ := qs_Gd.start hv
  subst hsz
  have hx := B.exec
  have hb := B.bytes
  have hr := B.returns
  have hts := atoms_spec (ws := wsX7_isIn) B.pre
  have hown : s.vm.findClass RX7 = some m.cls := findClass_of_methodNamed B.named
  have hlk := B.notSynchronized
  have in7 : ∀ w ∈ u_ws RX7 TX7 35, w ∈ wsX7_isIn := fun w h => List.mem_cons_of_mem _ (List.mem_append_right _ (h))
  have b41 : ∀ (K5 : qs_S → Nat → Int32 → Int32 → Int32 → Int32 → Prop), (∀ (S : qs_S) (a0 : Nat) (x1 : Int32) (x2 : Int32) (x3 : Int32) (x4 : Int32) (H : Heap) (locs : List Loc) (ls : Array Slot), K5 S a0 x1 x2 x3 x4 → qs_Gd g (qs_F g SA s.heap.size) s S H locs → lv_has ls 5 [(0, .ref a0), (1, .int x1), (2, .int x2), (3, .int x3), (4, .int x4)] → W p l e (headSpec wsX7_isIn ({ frames := 0, cells := 0, slots := 0, locals := 0 } : Room)).room s m (([.ref a0z, .int x1z, .int x2z] : List Value)).toArray below meth c H locs 0 0 (MQ below (qs_Qi g (qs_F g SA s.heap.size) post) (([.ref a0z, .int x1z, .int x2z] : List Value)).toArray s 0 0 (qs_F g SA s.heap.size)) (F0 m 5 ls [])) → ∀ (S : qs_S) (a0 : Nat) (x1 : Int32) (x2 : Int32) (x4 : Int32) (s0 : Int32) (H : Heap) (locs : List Loc) (ls : Array Slot), wp_X7_isIn_b41 g.2.2.2.2.2.2.1 g.2.2.2.2.2.2.2 post K5 S a0 x1 x2 x4 s0 → qs_Gd g (qs_F g SA s.heap.size) s S H locs → lv_has ls 5 [(0, .ref a0), (1, .int x1), (2, .int x2), (4, .int x4)] → W p l e (headSpec wsX7_isIn ({ frames := 0, cells := 0, slots := 0, locals := 0 } : Room)).room s m (([.ref a0z, .int x1z, .int x2z] : List Value)).toArray below meth c H locs 0 0 (MQ below (qs_Qi g (qs_F g SA s.heap.size) post) (([.ref a0z, .int x1z, .int x2z] : List Value)).toArray s 0 0 (qs_F g SA s.heap.size)) (F0 m 41 ls [.int s0]) := by
    intro K5 hK5 S a0 x1 x2 x4 s0 H locs ls h hG hl
    unfold wp_X7_isIn_b41 at h
    refine lv_istore_n (lv' := [(3, .int s0), (0, .ref a0), (1, .int x1), (2, .int x2), (4, .int x4)]) hx hb dX7_isIn_41 rfl hl (by decide) rfl (fun ls hl => ?_)
    obtain ⟨v1, ev1⟩ : ∃ y : Int32, y = x4 + 1 := ⟨_, rfl⟩
    have h := h v1 ev1
    refine lv_iinc (v := v1) (lv' := [(4, .int v1), (3, .int s0), (0, .ref a0), (1, .int x1), (2, .int x2)]) hx hb dX7_isIn_42 hl (k := 4) rfl (by rw [ev1]; rfl) (by decide) rfl (fun ls hl => ?_)
    refine lv_goto (tgt := 5) hx hb dX7_isIn_45 (by decide) ?_
    exact hK5 S a0 x1 x2 s0 v1 _ _ ls h hG (lv_sub hl [2, 3, 4, 1, 0] rfl)
  have b36 : ∀ (K5 : qs_S → Nat → Int32 → Int32 → Int32 → Int32 → Prop), (∀ (S : qs_S) (a0 : Nat) (x1 : Int32) (x2 : Int32) (x3 : Int32) (x4 : Int32) (H : Heap) (locs : List Loc) (ls : Array Slot), K5 S a0 x1 x2 x3 x4 → qs_Gd g (qs_F g SA s.heap.size) s S H locs → lv_has ls 5 [(0, .ref a0), (1, .int x1), (2, .int x2), (3, .int x3), (4, .int x4)] → W p l e (headSpec wsX7_isIn ({ frames := 0, cells := 0, slots := 0, locals := 0 } : Room)).room s m (([.ref a0z, .int x1z, .int x2z] : List Value)).toArray below meth c H locs 0 0 (MQ below (qs_Qi g (qs_F g SA s.heap.size) post) (([.ref a0z, .int x1z, .int x2z] : List Value)).toArray s 0 0 (qs_F g SA s.heap.size)) (F0 m 5 ls [])) → ∀ (S : qs_S) (a0 : Nat) (x1 : Int32) (x2 : Int32) (x4 : Int32) (H : Heap) (locs : List Loc) (ls : Array Slot), wp_X7_isIn_b36 g.2.2.2.2.2.2.1 g.2.2.2.2.2.2.2 post K5 S a0 x1 x2 x4 → qs_Gd g (qs_F g SA s.heap.size) s S H locs → lv_has ls 5 [(0, .ref a0), (1, .int x1), (2, .int x2), (4, .int x4)] → W p l e (headSpec wsX7_isIn ({ frames := 0, cells := 0, slots := 0, locals := 0 } : Room)).room s m (([.ref a0z, .int x1z, .int x2z] : List Value)).toArray below meth c H locs 0 0 (MQ below (qs_Qi g (qs_F g SA s.heap.size) post) (([.ref a0z, .int x1z, .int x2z] : List Value)).toArray s 0 0 (qs_F g SA s.heap.size)) (F0 m 36 ls []) := by
    intro K5 hK5 S a0 x1 x2 x4 H locs ls h hG hl
    unfold wp_X7_isIn_b36 at h
    refine lv_iconst (v := (1 : Int32)) hx hb dX7_isIn_36 (by decide +kernel) ?_
    refine lv_goto (tgt := 41) hx hb dX7_isIn_37 (by decide) ?_
    exact b41 K5 hK5 S a0 x1 x2 x4 (1 : Int32) _ _ ls h hG (lv_sub hl [0, 1, 2, 3] rfl)
  have c5 : ∀ (K5 : qs_S → Nat → Int32 → Int32 → Int32 → Int32 → Prop), (∀ (S : qs_S) (a0 : Nat) (x1 : Int32) (x2 : Int32) (x3 : Int32) (x4 : Int32) (H : Heap) (locs : List Loc) (ls : Array Slot), K5 S a0 x1 x2 x3 x4 → qs_Gd g (qs_F g SA s.heap.size) s S H locs → lv_has ls 5 [(0, .ref a0), (1, .int x1), (2, .int x2), (3, .int x3), (4, .int x4)] → W p l e (headSpec wsX7_isIn ({ frames := 0, cells := 0, slots := 0, locals := 0 } : Room)).room s m (([.ref a0z, .int x1z, .int x2z] : List Value)).toArray below meth c H locs 0 0 (MQ below (qs_Qi g (qs_F g SA s.heap.size) post) (([.ref a0z, .int x1z, .int x2z] : List Value)).toArray s 0 0 (qs_F g SA s.heap.size)) (F0 m 5 ls [])) → ∀ (S : qs_S) (a0 : Nat) (x1 : Int32) (x2 : Int32) (x3 : Int32) (x4 : Int32) (H : Heap) (locs : List Loc) (ls : Array Slot), wp_X7_isIn_c5 g.2.2.2.2.2.2.1 g.2.2.2.2.2.2.2 post K5 S a0 x1 x2 x3 x4 → qs_Gd g (qs_F g SA s.heap.size) s S H locs → lv_has ls 5 [(0, .ref a0), (1, .int x1), (2, .int x2), (3, .int x3), (4, .int x4)] → W p l e (headSpec wsX7_isIn ({ frames := 0, cells := 0, slots := 0, locals := 0 } : Room)).room s m (([.ref a0z, .int x1z, .int x2z] : List Value)).toArray below meth c H locs 0 0 (MQ below (qs_Qi g (qs_F g SA s.heap.size) post) (([.ref a0z, .int x1z, .int x2z] : List Value)).toArray s 0 0 (qs_F g SA s.heap.size)) (F0 m 5 ls []) := by
    intro K5 hK5 S a0 x1 x2 x3 x4 H locs ls h hG hl
    unfold wp_X7_isIn_c5 at h
    refine lv_iload hx hb dX7_isIn_5 (lv_at hl 4 rfl) ?_
    refine lv_aload_n hx hb dX7_isIn_7 rfl (lv_at hl 0 rfl) ?_
    obtain ⟨⟨hL2, fK3⟩, h⟩ := h
    obtain ⟨q4, eq4, h⟩ := h
    refine qr_get (C := RX7) (T := TX7) (N := 35) (ci := 7) hx hb hts in7 hown hG hL2 fK3 (by decide) rfl 29 (by decide) rfl (hts (.fieldLink RX7 77 "QuayMeshModel" "many" "[I") (List.mem_of_getElem? (i := 1) rfl)) (fun _ h9 => h9) (v := .ref q4) (qs_rf eq4) dX7_isIn_8 ?_
    refine lv_iload_n hx hb dX7_isIn_11 rfl (lv_at hl 1 rfl) ?_
    obtain ⟨⟨hL5, fK6⟩, h⟩ := h
    obtain ⟨hi7, h⟩ := h
    refine qr_iald hx hb hG hL5 fK6 hi7 rfl dX7_isIn_12 ?_
    refine lv_topi (fun v8 ev8 => ?_)
    have h := h v8 ev8
    refine lv_icmp_ge (tgt := 48) hx hb dX7_isIn_13 (by decide) (fun c9 => ?_) (fun c9 => ?_)
    · have h := h.1 c9
      refine lv_iload_n hx hb dX7_isIn_48 rfl (lv_at hl 3 rfl) ?_
      obtain ⟨z10, h⟩ := h
      exact qe_z hx hb hr hlk z10 hG h (Nat.le_refl _) (Nat.le_refl _) dX7_isIn_49
    · have h := h.2 c9
      refine lv_iload_n hx hb dX7_isIn_16 rfl (lv_at hl 3 rfl) ?_
      refine lv_if_ne (tgt := 36) hx hb dX7_isIn_17 (by decide) (fun c11 => ?_) (fun c11 => ?_)
      · have h := h.1 c11
        exact b36 K5 hK5 S a0 x1 x2 x4 _ _ ls h hG (lv_sub hl [0, 1, 2, 4] rfl)
      · have h := h.2 c11
        refine lv_aload_n hx hb dX7_isIn_20 rfl (lv_at hl 0 rfl) ?_
        obtain ⟨q12, eq12, h⟩ := h
        refine qr_get (C := RX7) (T := TX7) (N := 35) (ci := 7) hx hb hts in7 hown hG hL2 fK3 (by decide) rfl 30 (by decide) rfl (hts (.fieldLink RX7 80 "QuayMeshModel" "queue" "[I") (List.mem_of_getElem? (i := 2) rfl)) (fun _ h9 => h9) (v := .ref q12) (qs_rf eq12) dX7_isIn_21 ?_
        refine lv_bipush (v := (80 : Int32)) hx hb dX7_isIn_24 (by decide +kernel) ?_
        refine lv_iload_n hx hb dX7_isIn_26 rfl (lv_at hl 1 rfl) ?_
        refine lv_imul hx hb dX7_isIn_27 ?_
        refine lv_topi (fun v13 ev13 => ?_)
        have h := h v13 ev13
        refine lv_iload hx hb dX7_isIn_28 (lv_at hl 4 rfl) ?_
        refine lv_iadd hx hb dX7_isIn_30 ?_
        refine lv_topi (fun v14 ev14 => ?_)
        have h := h v14 ev14
        obtain ⟨⟨hL15, fK16⟩, h⟩ := h
        obtain ⟨hi17, h⟩ := h
        refine qr_iald hx hb hG hL15 fK16 hi17 rfl dX7_isIn_31 ?_
        refine lv_topi (fun v18 ev18 => ?_)
        have h := h v18 ev18
        refine lv_iload_n hx hb dX7_isIn_32 rfl (lv_at hl 2 rfl) ?_
        refine lv_icmp_ne (tgt := 40) hx hb dX7_isIn_33 (by decide) (fun c19 => ?_) (fun c19 => ?_)
        · have h := h.1 c19
          refine lv_iconst (v := (0 : Int32)) hx hb dX7_isIn_40 (by decide +kernel) ?_
          exact b41 K5 hK5 S a0 x1 x2 x4 (0 : Int32) _ _ ls h hG (lv_sub hl [0, 1, 2, 4] rfl)
        · have h := h.2 c19
          exact b36 K5 hK5 S a0 x1 x2 x4 _ _ ls h hG (lv_sub hl [0, 1, 2, 4] rfl)
  have b5 : ∀ n9 : Nat, ∀ (S : qs_S) (a0 : Nat) (x1 : Int32) (x2 : Int32) (x3 : Int32) (x4 : Int32) (H : Heap) (locs : List Loc) (ls : Array Slot), wp_X7_isIn_b5 g.2.2.2.2.2.2.1 g.2.2.2.2.2.2.2 post n9 S a0 x1 x2 x3 x4 → qs_Gd g (qs_F g SA s.heap.size) s S H locs → lv_has ls 5 [(0, .ref a0), (1, .int x1), (2, .int x2), (3, .int x3), (4, .int x4)] → W p l e (headSpec wsX7_isIn ({ frames := 0, cells := 0, slots := 0, locals := 0 } : Room)).room s m (([.ref a0z, .int x1z, .int x2z] : List Value)).toArray below meth c H locs 0 0 (MQ below (qs_Qi g (qs_F g SA s.heap.size) post) (([.ref a0z, .int x1z, .int x2z] : List Value)).toArray s 0 0 (qs_F g SA s.heap.size)) (F0 m 5 ls []) := by
    intro n9
    induction n9 with
    | zero =>
      intro S a0 x1 x2 x3 x4 H locs ls h hG hl
      exact False.elim h
    | succ n9 ih => exact c5 _ ih
  have hl := lv_entry ([.ref a0z, .int x1z, .int x2z]) (n := 5) (Nat.le_of_ble_eq_true rfl)
  rw [lg_entry_eq]
  generalize (lg_sl ([.ref a0z, .int x1z, .int x2z]) ++ List.replicate (5 - (lg_sl ([.ref a0z, .int x1z, .int x2z])).length) Slot.unset).toArray = ls at hl ⊢
  have hl : lv_has ls 5 [(0, .ref a0z), (1, .int x1z), (2, .int x2z)] := hl
  unfold wp_X7_isIn at h
  refine lv_iconst (v := (0 : Int32)) hx hb dX7_isIn_0 (by decide +kernel) ?_
  refine lv_istore_n (lv' := [(3, .int (0 : Int32)), (0, .ref a0z), (1, .int x1z), (2, .int x2z)]) hx hb dX7_isIn_1 rfl hl (by decide) rfl (fun ls hl => ?_)
  refine lv_iconst (v := (0 : Int32)) hx hb dX7_isIn_2 (by decide +kernel) ?_
  refine lv_istore (lv' := [(4, .int (0 : Int32)), (3, .int (0 : Int32)), (0, .ref a0z), (1, .int x1z), (2, .int x2z)]) hx hb dX7_isIn_3 hl (by decide) rfl (fun ls hl => ?_)
  obtain ⟨n20, h⟩ := h
  exact b5 n20 SA a0z x1z x2z (0 : Int32) (0 : Int32) _ _ ls h hG (lv_sub hl [2, 3, 4, 1, 0] rfl)
def wp_X7_firstFor_b9 (t0 m9 : Nat) (post : Int32 → qs_S → Prop) (S : qs_S) (s0 : Int32) : Prop := post s0 S
def wp_X7_firstFor (t0 m9 : Nat) (post : Int32 → qs_S → Prop) (SA : qs_S) (x0z : Int32) : Prop := (¬ x0z = 0 → (wp_X7_firstFor_b9 t0 m9 post SA (4 : Int32))) ∧ (x0z = 0 → (wp_X7_firstFor_b9 t0 m9 post SA (0 : Int32)))
set_option maxHeartbeats 4000000 in
set_option maxRecDepth 100000 in
theorem c_X7_firstFor (l : Launch) (g : qs_G) (sz : Nat) (SA : qs_S) (x0z : Int32) {post : Int32 → qs_S → Prop} (h : wp_X7_firstFor g.2.2.2.2.2.2.1 g.2.2.2.2.2.2.2 post SA x0z) : Met l yX7_firstFor wsX7_firstFor ({ frames := 0, cells := 0, slots := 0, locals := 0 } : Room) (qs_Pc g sz SA [.int x0z]) (qs_Qi g (qs_F g SA sz) post) 0 0 (qs_F g SA sz) := by
  refine Met.ofW (cc := cX7_firstFor) (maxL := 1) (ret := (some .int)) (by decide +kernel) rfl ?_
  intro p e s m args below meth c s₁ B hml hv
  obtain ⟨rfl, hsz, hG⟩ := qs_Gd.start hv
  subst hsz
  have hx := B.exec
  have hb := B.bytes
  have hr := B.returns
  have hts := atoms_spec (ws := wsX7_firstFor) B.pre
  have hown : s.vm.findClass RX7 = some m.cls := findClass_of_methodNamed B.named
  have hlk := B.notSynchronized
  have b9 : ∀ (S : qs_S) (s0 : Int32) (H : Heap) (locs : List Loc) (ls : Array Slot), wp_X7_firstFor_b9 g.2.2.2.2.2.2.1 g.2.2.2.2.2.2.2 post S s0 → qs_Gd g (qs_F g SA s.heap.size) s S H locs → lv_has ls 1 [] → W p l e (headSpec wsX7_firstFor ({ frames := 0, cells := 0, slots := 0, locals := 0 } : Room)).room s m (([.int x0z] : List Value)).toArray below meth c H locs 0 0 (MQ below (qs_Qi g (qs_F g SA s.heap.size) post) (([.int x0z] : List Value)).toArray s 0 0 (qs_F g SA s.heap.size)) (F0 m 9 ls [.int s0]) := by
    intro S s0 H locs ls h hG hl
    unfold wp_X7_firstFor_b9 at h
    exact qe_i hx hb hr hlk hG h (Nat.le_refl _) (Nat.le_refl _) dX7_firstFor_9
  have hl := lv_entry ([.int x0z]) (n := 1) (Nat.le_of_ble_eq_true rfl)
  rw [lg_entry_eq]
  generalize (lg_sl ([.int x0z]) ++ List.replicate (1 - (lg_sl ([.int x0z])).length) Slot.unset).toArray = ls at hl ⊢
  have hl : lv_has ls 1 [(0, .int x0z)] := hl
  unfold wp_X7_firstFor at h
  refine lv_iload_n hx hb dX7_firstFor_0 rfl (lv_at hl 0 rfl) ?_
  refine lv_if_ne (tgt := 8) hx hb dX7_firstFor_1 (by decide) (fun c1 => ?_) (fun c1 => ?_)
  · have h := h.1 c1
    refine lv_iconst (v := (4 : Int32)) hx hb dX7_firstFor_8 (by decide +kernel) ?_
    exact b9 SA (4 : Int32) _ _ ls h hG (lv_sub hl [] rfl)
  · have h := h.2 c1
    refine lv_iconst (v := (0 : Int32)) hx hb dX7_firstFor_4 (by decide +kernel) ?_
    refine lv_goto (tgt := 9) hx hb dX7_firstFor_5 (by decide) ?_
    exact b9 SA (0 : Int32) _ _ ls h hG (lv_sub hl [] rfl)
def wp_X7_freest_b51 (t0 m9 : Nat) (post : Int32 → qs_S → Prop) (K9 : qs_S → Nat → Int32 → Int32 → Int32 → Prop) (S : qs_S) (a0 : Nat) (x1 : Int32) (x3 : Int32) (s0 : Int32) : Prop := ∀ v1 : Int32, v1 = x3 + (-1) → K9 S a0 x1 s0 v1
def wp_X7_freest_b46 (t0 m9 : Nat) (post : Int32 → qs_S → Prop) (K9 : qs_S → Nat → Int32 → Int32 → Int32 → Prop) (S : qs_S) (a0 : Nat) (x1 : Int32) (x3 : Int32) : Prop := wp_X7_freest_b51 t0 m9 post K9 S a0 x1 x3 x3
def wp_X7_freest_b50 (t0 m9 : Nat) (post : Int32 → qs_S → Prop) (K9 : qs_S → Nat → Int32 → Int32 → Int32 → Prop) (S : qs_S) (a0 : Nat) (x1 : Int32) (x2 : Int32) (x3 : Int32) : Prop := wp_X7_freest_b51 t0 m9 post K9 S a0 x1 x3 x2
def wp_X7_freest_c9 (t0 m9 : Nat) (post : Int32 → qs_S → Prop) (K9 : qs_S → Nat → Int32 → Int32 → Int32 → Prop) (S : qs_S) (a0 : Nat) (x1 : Int32) (x2 : Int32) (x3 : Int32) : Prop := wp_X7_firstFor t0 m9 (fun (v5 : Int32) (S4 : qs_S) => (x3 < v5 → (post x2 S4)) ∧ (¬ x3 < v5 → ((a0 ∈ qs_L S4 ∧ qs_K S4 a0 = 7) ∧ (∃ q9 : Nat, qs_R S4 17 a0 = some q9 ∧ ((q9 ∈ qs_L S4 ∧ qs_K S4 q9 = 9) ∧ (vp_in x3 (qs_Z S4 q9) ∧ (∀ v13 : Int32, v13 = qs_A S4 q9 x3.toNatClampNeg → (¬ v13 = 0 → (wp_X7_freest_b50 t0 m9 post K9 S4 a0 x1 x2 x3)) ∧ (v13 = 0 → ((x2 = (-1 : Int32) → (wp_X7_freest_b46 t0 m9 post K9 S4 a0 x1 x3)) ∧ (¬ x2 = (-1 : Int32) → (∃ q16 : Nat, qs_R S4 29 a0 = some q16 ∧ ((q16 ∈ qs_L S4 ∧ qs_K S4 q16 = 8) ∧ (vp_in x3 (qs_Z S4 q16) ∧ (∀ v20 : Int32, v20 = qs_A S4 q16 x3.toNatClampNeg → ∃ q21 : Nat, qs_R S4 29 a0 = some q21 ∧ ((q21 ∈ qs_L S4 ∧ qs_K S4 q21 = 8) ∧ (vp_in x2 (qs_Z S4 q21) ∧ (∀ v25 : Int32, v25 = qs_A S4 q21 x2.toNatClampNeg → (v25 < v20 → (wp_X7_freest_b50 t0 m9 post K9 S4 a0 x1 x2 x3)) ∧ (¬ v25 < v20 → (wp_X7_freest_b46 t0 m9 post K9 S4 a0 x1 x3))))))))))))))))))) S x1
def wp_X7_freest_b9 (t0 m9 : Nat) (post : Int32 → qs_S → Prop) : Nat → qs_S → Nat → Int32 → Int32 → Int32 → Prop
  | 0 => fun _ _ _ _ _ => False
  | n9 + 1 => wp_X7_freest_c9 t0 m9 post (wp_X7_freest_b9 t0 m9 post n9)
def wp_X7_freest (t0 m9 : Nat) (post : Int32 → qs_S → Prop) (SA : qs_S) (a0z : Nat) (x1z : Int32) : Prop := wp_X7_firstFor t0 m9 (fun (v30 : Int32) (S29 : qs_S) => ∀ v31 : Int32, v31 = v30 + (3 : Int32) → ∃ n32 : Nat, wp_X7_freest_b9 t0 m9 post n32 S29 a0z x1z (-1 : Int32) v31) SA x1z
set_option maxHeartbeats 4000000 in
set_option maxRecDepth 100000 in
theorem c_X7_freest (l : Launch) (g : qs_G) (sz : Nat) (SA : qs_S) (a0z : Nat) (x1z : Int32) {post : Int32 → qs_S → Prop} (h : wp_X7_freest g.2.2.2.2.2.2.1 g.2.2.2.2.2.2.2 post SA a0z x1z) : Met l yX7_freest wsX7_freest ({ frames := 1, cells := 0, slots := 0, locals := 20 } : Room) (qs_Pc g sz SA [.ref a0z, .int x1z]) (qs_Qi g (qs_F g SA sz) post) 0 0 (qs_F g SA sz) := by
  refine Met.ofW (cc := cX7_freest) (maxL := 4) (ret := (some .int)) (by decide +kernel) rfl ?_
  intro p e s m args below meth c s₁ B hml hv
  obtain ⟨rfl, hsz, hG⟩ := qs_Gd.start hv
  subst hsz
  have hx := B.exec
  have hb := B.bytes
  have hr := B.returns
  have hts := atoms_spec (ws := wsX7_freest) B.pre
  have hown : s.vm.findClass RX7 = some m.cls := findClass_of_methodNamed B.named
  have hlk := B.notSynchronized
  have in7 : ∀ w ∈ u_ws RX7 TX7 35, w ∈ wsX7_freest := fun w h => List.mem_cons_of_mem _ (List.mem_append_right _ (h))
  have b51 : ∀ (K9 : qs_S → Nat → Int32 → Int32 → Int32 → Prop), (∀ (S : qs_S) (a0 : Nat) (x1 : Int32) (x2 : Int32) (x3 : Int32) (H : Heap) (locs : List Loc) (ls : Array Slot), K9 S a0 x1 x2 x3 → qs_Gd g (qs_F g SA s.heap.size) s S H locs → lv_has ls 4 [(0, .ref a0), (1, .int x1), (2, .int x2), (3, .int x3)] → W p l e (headSpec wsX7_freest ({ frames := 1, cells := 0, slots := 0, locals := 20 } : Room)).room s m (([.ref a0z, .int x1z] : List Value)).toArray below meth c H locs 0 0 (MQ below (qs_Qi g (qs_F g SA s.heap.size) post) (([.ref a0z, .int x1z] : List Value)).toArray s 0 0 (qs_F g SA s.heap.size)) (F0 m 9 ls [])) → ∀ (S : qs_S) (a0 : Nat) (x1 : Int32) (x3 : Int32) (s0 : Int32) (H : Heap) (locs : List Loc) (ls : Array Slot), wp_X7_freest_b51 g.2.2.2.2.2.2.1 g.2.2.2.2.2.2.2 post K9 S a0 x1 x3 s0 → qs_Gd g (qs_F g SA s.heap.size) s S H locs → lv_has ls 4 [(0, .ref a0), (1, .int x1), (3, .int x3)] → W p l e (headSpec wsX7_freest ({ frames := 1, cells := 0, slots := 0, locals := 20 } : Room)).room s m (([.ref a0z, .int x1z] : List Value)).toArray below meth c H locs 0 0 (MQ below (qs_Qi g (qs_F g SA s.heap.size) post) (([.ref a0z, .int x1z] : List Value)).toArray s 0 0 (qs_F g SA s.heap.size)) (F0 m 51 ls [.int s0]) := by
    intro K9 hK9 S a0 x1 x3 s0 H locs ls h hG hl
    unfold wp_X7_freest_b51 at h
    refine lv_istore_n (lv' := [(2, .int s0), (0, .ref a0), (1, .int x1), (3, .int x3)]) hx hb dX7_freest_51 rfl hl (by decide) rfl (fun ls hl => ?_)
    obtain ⟨v1, ev1⟩ : ∃ y : Int32, y = x3 + (-1) := ⟨_, rfl⟩
    have h := h v1 ev1
    refine lv_iinc (v := v1) (lv' := [(3, .int v1), (2, .int s0), (0, .ref a0), (1, .int x1)]) hx hb dX7_freest_52 hl (k := 3) rfl (by rw [ev1]; rfl) (by decide) rfl (fun ls hl => ?_)
    refine lv_goto (tgt := 9) hx hb dX7_freest_55 (by decide) ?_
    exact hK9 S a0 x1 s0 v1 _ _ ls h hG (lv_sub hl [2, 3, 1, 0] rfl)
  have b46 : ∀ (K9 : qs_S → Nat → Int32 → Int32 → Int32 → Prop), (∀ (S : qs_S) (a0 : Nat) (x1 : Int32) (x2 : Int32) (x3 : Int32) (H : Heap) (locs : List Loc) (ls : Array Slot), K9 S a0 x1 x2 x3 → qs_Gd g (qs_F g SA s.heap.size) s S H locs → lv_has ls 4 [(0, .ref a0), (1, .int x1), (2, .int x2), (3, .int x3)] → W p l e (headSpec wsX7_freest ({ frames := 1, cells := 0, slots := 0, locals := 20 } : Room)).room s m (([.ref a0z, .int x1z] : List Value)).toArray below meth c H locs 0 0 (MQ below (qs_Qi g (qs_F g SA s.heap.size) post) (([.ref a0z, .int x1z] : List Value)).toArray s 0 0 (qs_F g SA s.heap.size)) (F0 m 9 ls [])) → ∀ (S : qs_S) (a0 : Nat) (x1 : Int32) (x3 : Int32) (H : Heap) (locs : List Loc) (ls : Array Slot), wp_X7_freest_b46 g.2.2.2.2.2.2.1 g.2.2.2.2.2.2.2 post K9 S a0 x1 x3 → qs_Gd g (qs_F g SA s.heap.size) s S H locs → lv_has ls 4 [(0, .ref a0), (1, .int x1), (3, .int x3)] → W p l e (headSpec wsX7_freest ({ frames := 1, cells := 0, slots := 0, locals := 20 } : Room)).room s m (([.ref a0z, .int x1z] : List Value)).toArray below meth c H locs 0 0 (MQ below (qs_Qi g (qs_F g SA s.heap.size) post) (([.ref a0z, .int x1z] : List Value)).toArray s 0 0 (qs_F g SA s.heap.size)) (F0 m 46 ls []) := by
    intro K9 hK9 S a0 x1 x3 H locs ls h hG hl
    unfold wp_X7_freest_b46 at h
    refine lv_iload_n hx hb dX7_freest_46 rfl (lv_at hl 2 rfl) ?_
    refine lv_goto (tgt := 51) hx hb dX7_freest_47 (by decide) ?_
    exact b51 K9 hK9 S a0 x1 x3 x3 _ _ ls h hG (lv_sub hl [0, 1, 2] rfl)
  have b50 : ∀ (K9 : qs_S → Nat → Int32 → Int32 → Int32 → Prop), (∀ (S : qs_S) (a0 : Nat) (x1 : Int32) (x2 : Int32) (x3 : Int32) (H : Heap) (locs : List Loc) (ls : Array Slot), K9 S a0 x1 x2 x3 → qs_Gd g (qs_F g SA s.heap.size) s S H locs → lv_has ls 4 [(0, .ref a0), (1, .int x1), (2, .int x2), (3, .int x3)] → W p l e (headSpec wsX7_freest ({ frames := 1, cells := 0, slots := 0, locals := 20 } : Room)).room s m (([.ref a0z, .int x1z] : List Value)).toArray below meth c H locs 0 0 (MQ below (qs_Qi g (qs_F g SA s.heap.size) post) (([.ref a0z, .int x1z] : List Value)).toArray s 0 0 (qs_F g SA s.heap.size)) (F0 m 9 ls [])) → ∀ (S : qs_S) (a0 : Nat) (x1 : Int32) (x2 : Int32) (x3 : Int32) (H : Heap) (locs : List Loc) (ls : Array Slot), wp_X7_freest_b50 g.2.2.2.2.2.2.1 g.2.2.2.2.2.2.2 post K9 S a0 x1 x2 x3 → qs_Gd g (qs_F g SA s.heap.size) s S H locs → lv_has ls 4 [(0, .ref a0), (1, .int x1), (2, .int x2), (3, .int x3)] → W p l e (headSpec wsX7_freest ({ frames := 1, cells := 0, slots := 0, locals := 20 } : Room)).room s m (([.ref a0z, .int x1z] : List Value)).toArray below meth c H locs 0 0 (MQ below (qs_Qi g (qs_F g SA s.heap.size) post) (([.ref a0z, .int x1z] : List Value)).toArray s 0 0 (qs_F g SA s.heap.size)) (F0 m 50 ls []) := by
    intro K9 hK9 S a0 x1 x2 x3 H locs ls h hG hl
    unfold wp_X7_freest_b50 at h
    refine lv_iload_n hx hb dX7_freest_50 rfl (lv_at hl 2 rfl) ?_
    exact b51 K9 hK9 S a0 x1 x3 x2 _ _ ls h hG (lv_sub hl [0, 1, 3] rfl)
  have c9 : ∀ (K9 : qs_S → Nat → Int32 → Int32 → Int32 → Prop), (∀ (S : qs_S) (a0 : Nat) (x1 : Int32) (x2 : Int32) (x3 : Int32) (H : Heap) (locs : List Loc) (ls : Array Slot), K9 S a0 x1 x2 x3 → qs_Gd g (qs_F g SA s.heap.size) s S H locs → lv_has ls 4 [(0, .ref a0), (1, .int x1), (2, .int x2), (3, .int x3)] → W p l e (headSpec wsX7_freest ({ frames := 1, cells := 0, slots := 0, locals := 20 } : Room)).room s m (([.ref a0z, .int x1z] : List Value)).toArray below meth c H locs 0 0 (MQ below (qs_Qi g (qs_F g SA s.heap.size) post) (([.ref a0z, .int x1z] : List Value)).toArray s 0 0 (qs_F g SA s.heap.size)) (F0 m 9 ls [])) → ∀ (S : qs_S) (a0 : Nat) (x1 : Int32) (x2 : Int32) (x3 : Int32) (H : Heap) (locs : List Loc) (ls : Array Slot), wp_X7_freest_c9 g.2.2.2.2.2.2.1 g.2.2.2.2.2.2.2 post K9 S a0 x1 x2 x3 → qs_Gd g (qs_F g SA s.heap.size) s S H locs → lv_has ls 4 [(0, .ref a0), (1, .int x1), (2, .int x2), (3, .int x3)] → W p l e (headSpec wsX7_freest ({ frames := 1, cells := 0, slots := 0, locals := 20 } : Room)).room s m (([.ref a0z, .int x1z] : List Value)).toArray below meth c H locs 0 0 (MQ below (qs_Qi g (qs_F g SA s.heap.size) post) (([.ref a0z, .int x1z] : List Value)).toArray s 0 0 (qs_F g SA s.heap.size)) (F0 m 9 ls []) := by
    intro K9 hK9 S a0 x1 x2 x3 H locs ls h hG hl
    unfold wp_X7_freest_c9 at h
    refine lv_iload_n hx hb dX7_freest_9 rfl (lv_at hl 3 rfl) ?_
    refine lv_iload_n hx hb dX7_freest_10 rfl (lv_at hl 1 rfl) ?_
    refine qc_i hG (va_runS (As := [.int x1]) (rest := [.int x3]) ⟨hx, hb, hml, hown, hts⟩ (c_X7_firstFor l g _ S x1 h) (va_cwS 1 hts gX7_freest_X7_firstFor rfl rfl rfl (by decide +kernel) ⟨(Nat.le_of_ble_eq_true rfl), (Nat.le_of_ble_eq_true rfl)⟩) ⟨qs_Pc.blind _ _ _ _, hG.pre _⟩ rfl rfl hl.1 rfl (lv_room (Nat.le_of_ble_eq_true rfl)) dX7_freest_11 ⟨Nat.zero_le _, Nat.zero_le _⟩) (fun v5 S4 H locs h hG => ?_)
    refine lv_icmp_lt (tgt := 58) hx hb dX7_freest_14 (by decide) (fun c6 => ?_) (fun c6 => ?_)
    · have h := h.1 c6
      refine lv_iload_n hx hb dX7_freest_58 rfl (lv_at hl 2 rfl) ?_
      exact qe_i hx hb hr hlk hG h (Nat.le_refl _) (Nat.le_refl _) dX7_freest_59
    · have h := h.2 c6
      refine lv_aload_n hx hb dX7_freest_17 rfl (lv_at hl 0 rfl) ?_
      obtain ⟨⟨hL7, fK8⟩, h⟩ := h
      obtain ⟨q9, eq9, h⟩ := h
      refine qr_get (C := RX7) (T := TX7) (N := 35) (ci := 7) hx hb hts in7 hown hG hL7 fK8 (by decide) rfl 17 (by decide) rfl (hts (.fieldLink RX7 50 "QuayMeshModel" "isSilent" "[Z") (List.mem_of_getElem? (i := 1) rfl)) (fun _ h9 => h9) (v := .ref q9) (qs_rf eq9) dX7_freest_18 ?_
      refine lv_iload_n hx hb dX7_freest_21 rfl (lv_at hl 3 rfl) ?_
      obtain ⟨⟨hL10, fK11⟩, h⟩ := h
      obtain ⟨hi12, h⟩ := h
      refine qr_zald hx hb hG hL10 fK11 hi12 rfl dX7_freest_22 ?_
      refine lv_topi (fun v13 ev13 => ?_)
      have h := h v13 ev13
      refine lv_if_ne (tgt := 50) hx hb dX7_freest_23 (by decide) (fun c14 => ?_) (fun c14 => ?_)
      · have h := h.1 c14
        exact b50 K9 hK9 S4 a0 x1 x2 x3 _ _ ls h hG (lv_sub hl [0, 1, 2, 3] rfl)
      · have h := h.2 c14
        refine lv_iload_n hx hb dX7_freest_26 rfl (lv_at hl 2 rfl) ?_
        refine lv_iconst (v := (-1 : Int32)) hx hb dX7_freest_27 (by decide +kernel) ?_
        refine lv_icmp_eq (tgt := 46) hx hb dX7_freest_28 (by decide) (fun c15 => ?_) (fun c15 => ?_)
        · have h := h.1 c15
          exact b46 K9 hK9 S4 a0 x1 x3 _ _ ls h hG (lv_sub hl [0, 1, 3] rfl)
        · have h := h.2 c15
          refine lv_aload_n hx hb dX7_freest_31 rfl (lv_at hl 0 rfl) ?_
          obtain ⟨q16, eq16, h⟩ := h
          refine qr_get (C := RX7) (T := TX7) (N := 35) (ci := 7) hx hb hts in7 hown hG hL7 fK8 (by decide) rfl 29 (by decide) rfl (hts (.fieldLink RX7 77 "QuayMeshModel" "many" "[I") (List.mem_of_getElem? (i := 2) rfl)) (fun _ h9 => h9) (v := .ref q16) (qs_rf eq16) dX7_freest_32 ?_
          refine lv_iload_n hx hb dX7_freest_35 rfl (lv_at hl 3 rfl) ?_
          obtain ⟨⟨hL17, fK18⟩, h⟩ := h
          obtain ⟨hi19, h⟩ := h
          refine qr_iald hx hb hG hL17 fK18 hi19 rfl dX7_freest_36 ?_
          refine lv_topi (fun v20 ev20 => ?_)
          have h := h v20 ev20
          refine lv_aload_n hx hb dX7_freest_37 rfl (lv_at hl 0 rfl) ?_
          obtain ⟨q21, eq21, h⟩ := h
          refine qr_get (C := RX7) (T := TX7) (N := 35) (ci := 7) hx hb hts in7 hown hG hL7 fK8 (by decide) rfl 29 (by decide) rfl (hts (.fieldLink RX7 77 "QuayMeshModel" "many" "[I") (List.mem_of_getElem? (i := 2) rfl)) (fun _ h9 => h9) (v := .ref q21) (qs_rf eq21) dX7_freest_38 ?_
          refine lv_iload_n hx hb dX7_freest_41 rfl (lv_at hl 2 rfl) ?_
          obtain ⟨⟨hL22, fK23⟩, h⟩ := h
          obtain ⟨hi24, h⟩ := h
          refine qr_iald hx hb hG hL22 fK23 hi24 rfl dX7_freest_42 ?_
          refine lv_topi (fun v25 ev25 => ?_)
          have h := h v25 ev25
          refine lv_icmp_gt (tgt := 50) hx hb dX7_freest_43 (by decide) (fun c26 => ?_) (fun c26 => ?_)
          · have h := h.1 c26
            exact b50 K9 hK9 S4 a0 x1 x2 x3 _ _ ls h hG (lv_sub hl [0, 1, 2, 3] rfl)
          · have h := h.2 c26
            exact b46 K9 hK9 S4 a0 x1 x3 _ _ ls h hG (lv_sub hl [0, 1, 3] rfl)
  have b9 : ∀ n9 : Nat, ∀ (S : qs_S) (a0 : Nat) (x1 : Int32) (x2 : Int32) (x3 : Int32) (H : Heap) (locs : List Loc) (ls : Array Slot), wp_X7_freest_b9 g.2.2.2.2.2.2.1 g.2.2.2.2.2.2.2 post n9 S a0 x1 x2 x3 → qs_Gd g (qs_F g SA s.heap.size) s S H locs → lv_has ls 4 [(0, .ref a0), (1, .int x1), (2, .int x2), (3, .int x3)] → W p l e (headSpec wsX7_freest ({ frames := 1, cells := 0, slots := 0, locals := 20 } : Room)).room s m (([.ref a0z, .int x1z] : List Value)).toArray below meth c H locs 0 0 (MQ below (qs_Qi g (qs_F g SA s.heap.size) post) (([.ref a0z, .int x1z] : List Value)).toArray s 0 0 (qs_F g SA s.heap.size)) (F0 m 9 ls []) := by
    intro n9
    induction n9 with
    | zero =>
      intro S a0 x1 x2 x3 H locs ls h hG hl
      exact False.elim h
    | succ n9 ih => exact c9 _ ih
  have hl := lv_entry ([.ref a0z, .int x1z]) (n := 4) (Nat.le_of_ble_eq_true rfl)
  rw [lg_entry_eq]
  generalize (lg_sl ([.ref a0z, .int x1z]) ++ List.replicate (4 - (lg_sl ([.ref a0z, .int x1z])).length) Slot.unset).toArray = ls at hl ⊢
  have hl : lv_has ls 4 [(0, .ref a0z), (1, .int x1z)] := hl
  unfold wp_X7_freest at h
  refine lv_iconst (v := (-1 : Int32)) hx hb dX7_freest_0 (by decide +kernel) ?_
  refine lv_istore_n (lv' := [(2, .int (-1 : Int32)), (0, .ref a0z), (1, .int x1z)]) hx hb dX7_freest_1 rfl hl (by decide) rfl (fun ls hl => ?_)
  refine lv_iload_n hx hb dX7_freest_2 rfl (lv_at hl 2 rfl) ?_
  refine qc_i hG (va_runS (As := [.int x1z]) (rest := []) ⟨hx, hb, hml, hown, hts⟩ (c_X7_firstFor l g _ SA x1z h) (va_cwS 1 hts gX7_freest_X7_firstFor rfl rfl rfl (by decide +kernel) ⟨(Nat.le_of_ble_eq_true rfl), (Nat.le_of_ble_eq_true rfl)⟩) ⟨qs_Pc.blind _ _ _ _, hG.pre _⟩ rfl rfl hl.1 rfl (lv_room (Nat.le_of_ble_eq_true rfl)) dX7_freest_3 ⟨Nat.zero_le _, Nat.zero_le _⟩) (fun v30 S29 H locs h hG => ?_)
  refine lv_iconst (v := (3 : Int32)) hx hb dX7_freest_6 (by decide +kernel) ?_
  refine lv_iadd hx hb dX7_freest_7 ?_
  refine lv_topi (fun v31 ev31 => ?_)
  have h := h v31 ev31
  refine lv_istore_n (lv' := [(3, .int v31), (2, .int (-1 : Int32)), (0, .ref a0z), (1, .int x1z)]) hx hb dX7_freest_8 rfl hl (by decide) rfl (fun ls hl => ?_)
  obtain ⟨n32, h⟩ := h
  exact b9 n32 S29 a0z x1z (-1 : Int32) v31 _ _ ls h hG (lv_sub hl [2, 3, 1, 0] rfl)
def wp_X7_isTarget_b20 (t0 m9 : Nat) (post : Int32 → qs_S → Prop) (S : qs_S) (s0 : Int32) (s1 : Int32) (s2 : Int32) : Prop := wp_X7_in t0 m9 (fun (v4 : Int32) (S3 : qs_S) => (v4 = 0 ∨ v4 = 1) ∧ post v4 S3) S s0 s1 s2
def wp_X7_isTarget (t0 m9 : Nat) (post : Int32 → qs_S → Prop) (SA : qs_S) (x0z : Int32) (x1z : Int32) : Prop := (¬ x0z = 0 → ((¬ x0z = (1 : Int32) → (wp_X7_isTarget_b20 t0 m9 post SA x1z (0 : Int32) (1 : Int32))) ∧ (x0z = (1 : Int32) → (wp_X7_isTarget_b20 t0 m9 post SA x1z (0 : Int32) (5 : Int32))))) ∧ (x0z = 0 → (wp_X7_isTarget_b20 t0 m9 post SA x1z (0 : Int32) (0 : Int32)))
set_option maxHeartbeats 4000000 in
set_option maxRecDepth 100000 in
theorem c_X7_isTarget (l : Launch) (g : qs_G) (sz : Nat) (SA : qs_S) (x0z : Int32) (x1z : Int32) {post : Int32 → qs_S → Prop} (h : wp_X7_isTarget g.2.2.2.2.2.2.1 g.2.2.2.2.2.2.2 post SA x0z x1z) : Met l yX7_isTarget wsX7_isTarget ({ frames := 1, cells := 0, slots := 0, locals := 22 } : Room) (qs_Pc g sz SA [.int x0z, .int x1z]) (qs_Qi g (qs_F g SA sz) post) 0 0 (qs_F g SA sz) := by
  refine Met.ofW (cc := cX7_isTarget) (maxL := 2) (ret := (some .boolean)) (by decide +kernel) rfl ?_
  intro p e s m args below meth c s₁ B hml hv
  obtain ⟨rfl, hsz, hG⟩ := qs_Gd.start hv
  subst hsz
  have hx := B.exec
  have hb := B.bytes
  have hr := B.returns
  have hts := atoms_spec (ws := wsX7_isTarget) B.pre
  have hown : s.vm.findClass RX7 = some m.cls := findClass_of_methodNamed B.named
  have hlk := B.notSynchronized
  have b20 : ∀ (S : qs_S) (s0 : Int32) (s1 : Int32) (s2 : Int32) (H : Heap) (locs : List Loc) (ls : Array Slot), wp_X7_isTarget_b20 g.2.2.2.2.2.2.1 g.2.2.2.2.2.2.2 post S s0 s1 s2 → qs_Gd g (qs_F g SA s.heap.size) s S H locs → lv_has ls 2 [] → W p l e (headSpec wsX7_isTarget ({ frames := 1, cells := 0, slots := 0, locals := 22 } : Room)).room s m (([.int x0z, .int x1z] : List Value)).toArray below meth c H locs 0 0 (MQ below (qs_Qi g (qs_F g SA s.heap.size) post) (([.int x0z, .int x1z] : List Value)).toArray s 0 0 (qs_F g SA s.heap.size)) (F0 m 20 ls [.int s2, .int s1, .int s0]) := by
    intro S s0 s1 s2 H locs ls h hG hl
    unfold wp_X7_isTarget_b20 at h
    refine qc_i hG (va_runS (As := [.int s0, .int s1, .int s2]) (rest := []) ⟨hx, hb, hml, hown, hts⟩ (c_X7_in l g _ S s0 s1 s2 h) (va_cwS 3 hts gX7_isTarget_X7_in rfl rfl rfl (by decide +kernel) ⟨(Nat.le_of_ble_eq_true rfl), (Nat.le_of_ble_eq_true rfl)⟩) ⟨qs_Pc.blind _ _ _ _, hG.pre _⟩ rfl rfl hl.1 rfl (lv_room (Nat.le_of_ble_eq_true rfl)) dX7_isTarget_20 ⟨Nat.zero_le _, Nat.zero_le _⟩) (fun v4 S3 H locs h hG => ?_)
    obtain ⟨z5, h⟩ := h
    exact qe_z hx hb hr hlk z5 hG h (Nat.le_refl _) (Nat.le_refl _) dX7_isTarget_23
  have hl := lv_entry ([.int x0z, .int x1z]) (n := 2) (Nat.le_of_ble_eq_true rfl)
  rw [lg_entry_eq]
  generalize (lg_sl ([.int x0z, .int x1z]) ++ List.replicate (2 - (lg_sl ([.int x0z, .int x1z])).length) Slot.unset).toArray = ls at hl ⊢
  have hl : lv_has ls 2 [(0, .int x0z), (1, .int x1z)] := hl
  unfold wp_X7_isTarget at h
  refine lv_iload_n hx hb dX7_isTarget_0 rfl (lv_at hl 1 rfl) ?_
  refine lv_iconst (v := (0 : Int32)) hx hb dX7_isTarget_1 (by decide +kernel) ?_
  refine lv_iload_n hx hb dX7_isTarget_2 rfl (lv_at hl 0 rfl) ?_
  refine lv_if_ne (tgt := 10) hx hb dX7_isTarget_3 (by decide) (fun c6 => ?_) (fun c6 => ?_)
  · have h := h.1 c6
    refine lv_iload_n hx hb dX7_isTarget_10 rfl (lv_at hl 0 rfl) ?_
    refine lv_iconst (v := (1 : Int32)) hx hb dX7_isTarget_11 (by decide +kernel) ?_
    refine lv_icmp_ne (tgt := 19) hx hb dX7_isTarget_12 (by decide) (fun c7 => ?_) (fun c7 => ?_)
    · have h := h.1 c7
      refine lv_iconst (v := (1 : Int32)) hx hb dX7_isTarget_19 (by decide +kernel) ?_
      exact b20 SA x1z (0 : Int32) (1 : Int32) _ _ ls h hG (lv_sub hl [] rfl)
    · have h := h.2 c7
      refine lv_iconst (v := (5 : Int32)) hx hb dX7_isTarget_15 (by decide +kernel) ?_
      refine lv_goto (tgt := 20) hx hb dX7_isTarget_16 (by decide) ?_
      exact b20 SA x1z (0 : Int32) (5 : Int32) _ _ ls h hG (lv_sub hl [] rfl)
  · have h := h.2 c6
    refine lv_iconst (v := (0 : Int32)) hx hb dX7_isTarget_6 (by decide +kernel) ?_
    refine lv_goto (tgt := 20) hx hb dX7_isTarget_7 (by decide) ?_
    exact b20 SA x1z (0 : Int32) (0 : Int32) _ _ ls h hG (lv_sub hl [] rfl)
def wp_X7_send_b143 (t0 m9 : Nat) (post : Int32 → qs_S → Prop) (S : qs_S) (a0 : Nat) (x1 : Int32) (x2 : Int32) (x3 : Int32) (x5 : Int32) (r0 : Nat) (s1 : Int32) : Prop := (r0 ∈ qs_L S ∧ qs_K S r0 = 7) ∧ ((a0 ∈ qs_L (qs_wI S 0 r0 s1) ∧ qs_K (qs_wI S 0 r0 s1) a0 = 7) ∧ (∀ v5 : Int32, v5 = qs_I (qs_wI S 0 r0 s1) 0 a0 → (v5 ≤ 0 → (∃ q7 : Nat, qs_R (qs_wI S 0 r0 s1) 19 a0 = some q7 ∧ (∀ v8 : Int32, v8 = qs_I (qs_wI S 0 r0 s1) 18 a0 → (q7 ∈ qs_L (qs_wI S 0 r0 s1) ∧ qs_K (qs_wI S 0 r0 s1) q7 = 8) ∧ (vp_in v8 (qs_Z (qs_wI S 0 r0 s1) q7) ∧ (∃ q12 : Nat, qs_R (qs_wA (qs_wI S 0 r0 s1) q7 v8.toNatClampNeg x1) 20 a0 = some q12 ∧ (∀ v13 : Int32, v13 = qs_I (qs_wA (qs_wI S 0 r0 s1) q7 v8.toNatClampNeg x1) 18 a0 → (q12 ∈ qs_L (qs_wA (qs_wI S 0 r0 s1) q7 v8.toNatClampNeg x1) ∧ qs_K (qs_wA (qs_wI S 0 r0 s1) q7 v8.toNatClampNeg x1) q12 = 8) ∧ (vp_in v13 (qs_Z (qs_wA (qs_wI S 0 r0 s1) q7 v8.toNatClampNeg x1) q12) ∧ (∃ q17 : Nat, qs_R (qs_wA (qs_wA (qs_wI S 0 r0 s1) q7 v8.toNatClampNeg x1) q12 v13.toNatClampNeg x2) 21 a0 = some q17 ∧ (∀ v18 : Int32, v18 = qs_I (qs_wA (qs_wA (qs_wI S 0 r0 s1) q7 v8.toNatClampNeg x1) q12 v13.toNatClampNeg x2) 18 a0 → (q17 ∈ qs_L (qs_wA (qs_wA (qs_wI S 0 r0 s1) q7 v8.toNatClampNeg x1) q12 v13.toNatClampNeg x2) ∧ qs_K (qs_wA (qs_wA (qs_wI S 0 r0 s1) q7 v8.toNatClampNeg x1) q12 v13.toNatClampNeg x2) q17 = 8) ∧ (vp_in v18 (qs_Z (qs_wA (qs_wA (qs_wI S 0 r0 s1) q7 v8.toNatClampNeg x1) q12 v13.toNatClampNeg x2) q17) ∧ (∀ v22 : Int32, v22 = qs_I (qs_wA (qs_wA (qs_wA (qs_wI S 0 r0 s1) q7 v8.toNatClampNeg x1) q12 v13.toNatClampNeg x2) q17 v18.toNatClampNeg x3) 18 a0 → wp_X7_joins t0 m9 (fun (S25 : qs_S) => (a0 ∈ qs_L S25 ∧ qs_K S25 a0 = 7) ∧ (∀ v28 : Int32, v28 = qs_I S25 18 a0 → ∀ v29 : Int32, v29 = v28 + (1 : Int32) → ∀ v30 : Int32, v30 = qs_I (qs_wI S25 18 a0 v29) 18 a0 → ∀ v31 : Int32, v31 = v30 - (1 : Int32) → post v31 (qs_wI S25 18 a0 v29))) (qs_wA (qs_wA (qs_wA (qs_wI S 0 r0 s1) q7 v8.toNatClampNeg x1) q12 v13.toNatClampNeg x2) q17 v18.toNatClampNeg x3) a0 x5 v22))))))))))) ∧ (¬ v5 ≤ 0 → (post (0 : Int32) (qs_wI S 0 r0 s1)))))
def wp_X7_send_b126 (t0 m9 : Nat) (post : Int32 → qs_S → Prop) (S : qs_S) (a0 : Nat) (x1 : Int32) (x2 : Int32) (x3 : Int32) (s0 : Int32) : Prop := (¬ s0 = (-1 : Int32) → ((a0 ∈ qs_L S ∧ qs_K S a0 = 7) ∧ (∀ v35 : Int32, v35 = qs_I S 0 a0 → wp_X7_send_b143 t0 m9 post S a0 x1 x2 x3 s0 a0 v35))) ∧ (s0 = (-1 : Int32) → (wp_X7_send_b143 t0 m9 post S a0 x1 x2 x3 s0 a0 (3 : Int32)))
def wp_X7_send_b99 (t0 m9 : Nat) (post : Int32 → qs_S → Prop) (S : qs_S) (a0 : Nat) (x1 : Int32) (x2 : Int32) (x3 : Int32) (x4 : Int32) : Prop := (a0 ∈ qs_L S ∧ qs_K S a0 = 7) ∧ (∀ v38 : Int32, v38 = qs_I S 0 a0 → (v38 ≤ 0 → ((¬ x4 = (-1 : Int32) → (wp_X7_send_b126 t0 m9 post S a0 x1 x2 x3 x4)) ∧ (x4 = (-1 : Int32) → (wp_X7_freest t0 m9 (fun (v44 : Int32) (S43 : qs_S) => wp_X7_send_b126 t0 m9 post S43 a0 x1 x2 x3 v44) S a0 x1)))) ∧ (¬ v38 ≤ 0 → (wp_X7_send_b126 t0 m9 post S a0 x1 x2 x3 (0 : Int32))))
def wp_X7_send_b96 (t0 m9 : Nat) (post : Int32 → qs_S → Prop) (S : qs_S) (a0 : Nat) (x1 : Int32) (x2 : Int32) (x3 : Int32) (x4 : Int32) (r0 : Nat) (s1 : Int32) : Prop := (r0 ∈ qs_L S ∧ qs_K S r0 = 7) ∧ (wp_X7_send_b99 t0 m9 post (qs_wI S 0 r0 s1) a0 x1 x2 x3 x4)
def wp_X7_send_b78 (t0 m9 : Nat) (post : Int32 → qs_S → Prop) (S : qs_S) (a0 : Nat) (x1 : Int32) (x2 : Int32) (x3 : Int32) (x4 : Int32) (r0 : Nat) : Prop := wp_X7_send_b96 t0 m9 post S a0 x1 x2 x3 x4 r0 (2 : Int32)
def wp_X7_send_b54 (t0 m9 : Nat) (post : Int32 → qs_S → Prop) (S : qs_S) (a0 : Nat) (x1 : Int32) (x2 : Int32) (x3 : Int32) (x4 : Int32) (s0 : Int32) : Prop := (a0 ∈ qs_L S ∧ qs_K S a0 = 7) ∧ (wp_X7_isBox t0 m9 (fun (v52 : Int32) (S51 : qs_S) => (v52 = 0 → (wp_X7_send_b78 t0 m9 post S51 a0 x1 x2 x3 x4 a0)) ∧ (¬ v52 = 0 → (wp_X7_isTarget t0 m9 (fun (v57 : Int32) (S56 : qs_S) => (v57 = 0 → (wp_X7_send_b78 t0 m9 post S56 a0 x1 x2 x3 x4 a0)) ∧ (¬ v57 = 0 → ((¬ s0 = 0 → ((a0 ∈ qs_L S56 ∧ qs_K S56 a0 = 7) ∧ (∀ v62 : Int32, v62 = qs_I S56 18 a0 → (¬ v62 = (80 : Int32) → (wp_X7_send_b96 t0 m9 post S56 a0 x1 x2 x3 x4 a0 (0 : Int32))) ∧ (v62 = (80 : Int32) → (wp_X7_send_b96 t0 m9 post S56 a0 x1 x2 x3 x4 a0 (3 : Int32)))))) ∧ (s0 = 0 → (wp_X7_send_b78 t0 m9 post S56 a0 x1 x2 x3 x4 a0))))) S51 x1 x3))) S a0 x2)
def wp_X7_send_b49 (t0 m9 : Nat) (post : Int32 → qs_S → Prop) (S : qs_S) (a0 : Nat) (x1 : Int32) (x2 : Int32) (x3 : Int32) (x4 : Int32) : Prop := wp_X7_send_b54 t0 m9 post S a0 x1 x2 x3 x4 (1 : Int32)
def wp_X7_send_b15 (t0 m9 : Nat) (post : Int32 → qs_S → Prop) (S : qs_S) (a0 : Nat) (x1 : Int32) (x2 : Int32) (x3 : Int32) (x4 : Int32) (r0 : Nat) (s1 : Int32) : Prop := (r0 ∈ qs_L S ∧ qs_K S r0 = 7) ∧ ((a0 ∈ qs_L (qs_wI S 0 r0 s1) ∧ qs_K (qs_wI S 0 r0 s1) a0 = 7) ∧ (∀ v68 : Int32, v68 = qs_I (qs_wI S 0 r0 s1) 0 a0 → (¬ v68 = 0 → (wp_X7_send_b99 t0 m9 post (qs_wI S 0 r0 s1) a0 x1 x2 x3 x4)) ∧ (v68 = 0 → ((x4 = (-1 : Int32) → (wp_X7_send_b49 t0 m9 post (qs_wI S 0 r0 s1) a0 x1 x2 x3 x4)) ∧ (¬ x4 = (-1 : Int32) → (wp_X7_firstFor t0 m9 (fun (v74 : Int32) (S73 : qs_S) => wp_X7_firstFor t0 m9 (fun (v78 : Int32) (S77 : qs_S) => ∀ v79 : Int32, v79 = v78 + (3 : Int32) → wp_X7_in t0 m9 (fun (v83 : Int32) (S82 : qs_S) => (v83 = 0 → (wp_X7_send_b54 t0 m9 post S82 a0 x1 x2 x3 x4 (0 : Int32))) ∧ (¬ v83 = 0 → (wp_X7_send_b49 t0 m9 post S82 a0 x1 x2 x3 x4))) S77 x4 v74 v79) S73 x1) (qs_wI S 0 r0 s1) x1))))))
def wp_X7_send (t0 m9 : Nat) (post : Int32 → qs_S → Prop) (SA : qs_S) (a0z : Nat) (x1z : Int32) (x2z : Int32) (x3z : Int32) (x4z : Int32) : Prop := wp_X7_in t0 m9 (fun (v88 : Int32) (S87 : qs_S) => (v88 = 0 → (wp_X7_send_b15 t0 m9 post S87 a0z x1z x2z x3z x4z a0z (1 : Int32))) ∧ (¬ v88 = 0 → (wp_X7_send_b15 t0 m9 post S87 a0z x1z x2z x3z x4z a0z (0 : Int32)))) SA x1z (0 : Int32) (2 : Int32)
set_option maxHeartbeats 4000000 in
set_option maxRecDepth 100000 in
theorem c_X7_send (l : Launch) (g : qs_G) (sz : Nat) (SA : qs_S) (a0z : Nat) (x1z : Int32) (x2z : Int32) (x3z : Int32) (x4z : Int32) {post : Int32 → qs_S → Prop} (h : wp_X7_send g.2.2.2.2.2.2.1 g.2.2.2.2.2.2.2 post SA a0z x1z x2z x3z x4z) : Met l yX7_send wsX7_send ({ frames := 2, cells := 0, slots := 0, locals := 43 } : Room) (qs_Pc g sz SA [.ref a0z, .int x1z, .int x2z, .int x3z, .int x4z]) (qs_Qi g (qs_F g SA sz) post) 0 0 (qs_F g SA sz) := by
  refine Met.ofW (cc := cX7_send) (maxL := 6) (ret := (some .int)) (by decide +kernel) rfl ?_
  intro p e s m args below meth c s₁ B hml hv
  obtain ⟨rfl, hsz, hG⟩ := qs_Gd.start hv
  subst hsz
  have hx := B.exec
  have hb := B.bytes
  have hr := B.returns
  have hts := atoms_spec (ws := wsX7_send) B.pre
  have hown : s.vm.findClass RX7 = some m.cls := findClass_of_methodNamed B.named
  have hlk := B.notSynchronized
  have in7 : ∀ w ∈ u_ws RX7 TX7 35, w ∈ wsX7_send := fun w h => List.mem_cons_of_mem _ (List.mem_append_right _ (h))
  have b143 : ∀ (S : qs_S) (a0 : Nat) (x1 : Int32) (x2 : Int32) (x3 : Int32) (x5 : Int32) (r0 : Nat) (s1 : Int32) (H : Heap) (locs : List Loc) (ls : Array Slot), wp_X7_send_b143 g.2.2.2.2.2.2.1 g.2.2.2.2.2.2.2 post S a0 x1 x2 x3 x5 r0 s1 → qs_Gd g (qs_F g SA s.heap.size) s S H locs → lv_has ls 6 [(0, .ref a0), (1, .int x1), (2, .int x2), (3, .int x3), (5, .int x5)] → W p l e (headSpec wsX7_send ({ frames := 2, cells := 0, slots := 0, locals := 43 } : Room)).room s m (([.ref a0z, .int x1z, .int x2z, .int x3z, .int x4z] : List Value)).toArray below meth c H locs 0 0 (MQ below (qs_Qi g (qs_F g SA s.heap.size) post) (([.ref a0z, .int x1z, .int x2z, .int x3z, .int x4z] : List Value)).toArray s 0 0 (qs_F g SA s.heap.size)) (F0 m 143 ls [.int s1, .ref r0]) := by
    intro S a0 x1 x2 x3 x5 r0 s1 H locs ls h hG hl
    unfold wp_X7_send_b143 at h
    obtain ⟨⟨hL1, fK2⟩, h⟩ := h
    refine qr_putI (C := RX7) (T := TX7) (N := 35) (ci := 7) hx hb hts in7 tyX7 tyX7_ok nmX7 hown hG hL1 fK2 (by decide) rfl 0 (by decide) rfl (hts (.fieldLink RX7 95 "QuayMeshModel" "thrown" "I") (List.mem_of_getElem? (i := 1) rfl)) (fun _ h9 => h9) rfl (x := s1) (tyX7_ok 0 (by decide)) rfl rfl dX7_send_143 (fun H locs hG => ?_)
    refine lv_aload_n hx hb dX7_send_146 rfl (lv_at hl 0 rfl) ?_
    obtain ⟨⟨hL3, fK4⟩, h⟩ := h
    refine qr_get (C := RX7) (T := TX7) (N := 35) (ci := 7) hx hb hts in7 hown hG hL3 fK4 (by decide) rfl 0 (by decide) rfl (hts (.fieldLink RX7 95 "QuayMeshModel" "thrown" "I") (List.mem_of_getElem? (i := 1) rfl)) (fun _ h9 => h9) (v := .int (qs_I (qs_wI S 0 r0 s1) 0 a0)) rfl dX7_send_147 ?_
    refine lv_topi (fun v5 ev5 => ?_)
    have h := h v5 ev5
    refine lv_if_le (tgt := 155) hx hb dX7_send_150 (by decide) (fun c6 => ?_) (fun c6 => ?_)
    · have h := h.1 c6
      refine lv_aload_n hx hb dX7_send_155 rfl (lv_at hl 0 rfl) ?_
      obtain ⟨q7, eq7, h⟩ := h
      refine qr_get (C := RX7) (T := TX7) (N := 35) (ci := 7) hx hb hts in7 hown hG hL3 fK4 (by decide) rfl 19 (by decide) rfl (hts (.fieldLink RX7 53 "QuayMeshModel" "kind" "[I") (List.mem_of_getElem? (i := 3) rfl)) (fun _ h9 => h9) (v := .ref q7) (qs_rf eq7) dX7_send_156 ?_
      refine lv_aload_n hx hb dX7_send_159 rfl (lv_at hl 0 rfl) ?_
      refine qr_get (C := RX7) (T := TX7) (N := 35) (ci := 7) hx hb hts in7 hown hG hL3 fK4 (by decide) rfl 18 (by decide) rfl (hts (.fieldLink RX7 130 "QuayMeshModel" "messages" "I") (List.mem_of_getElem? (i := 2) rfl)) (fun _ h9 => h9) (v := .int (qs_I (qs_wI S 0 r0 s1) 18 a0)) rfl dX7_send_160 ?_
      refine lv_topi (fun v8 ev8 => ?_)
      have h := h v8 ev8
      refine lv_iload_n hx hb dX7_send_163 rfl (lv_at hl 1 rfl) ?_
      obtain ⟨⟨hL9, fK10⟩, h⟩ := h
      obtain ⟨hi11, h⟩ := h
      refine qr_iast hx hb hG hL9 fK10 hi11 dX7_send_164 (fun H locs hG => ?_)
      refine lv_aload_n hx hb dX7_send_165 rfl (lv_at hl 0 rfl) ?_
      obtain ⟨q12, eq12, h⟩ := h
      refine qr_get (C := RX7) (T := TX7) (N := 35) (ci := 7) hx hb hts in7 hown hG hL3 fK4 (by decide) rfl 20 (by decide) rfl (hts (.fieldLink RX7 56 "QuayMeshModel" "box" "[I") (List.mem_of_getElem? (i := 4) rfl)) (fun _ h9 => h9) (v := .ref q12) (qs_rf eq12) dX7_send_166 ?_
      refine lv_aload_n hx hb dX7_send_169 rfl (lv_at hl 0 rfl) ?_
      refine qr_get (C := RX7) (T := TX7) (N := 35) (ci := 7) hx hb hts in7 hown hG hL3 fK4 (by decide) rfl 18 (by decide) rfl (hts (.fieldLink RX7 130 "QuayMeshModel" "messages" "I") (List.mem_of_getElem? (i := 2) rfl)) (fun _ h9 => h9) (v := .int (qs_I (qs_wA (qs_wI S 0 r0 s1) q7 v8.toNatClampNeg x1) 18 a0)) rfl dX7_send_170 ?_
      refine lv_topi (fun v13 ev13 => ?_)
      have h := h v13 ev13
      refine lv_iload_n hx hb dX7_send_173 rfl (lv_at hl 2 rfl) ?_
      obtain ⟨⟨hL14, fK15⟩, h⟩ := h
      obtain ⟨hi16, h⟩ := h
      refine qr_iast hx hb hG hL14 fK15 hi16 dX7_send_174 (fun H locs hG => ?_)
      refine lv_aload_n hx hb dX7_send_175 rfl (lv_at hl 0 rfl) ?_
      obtain ⟨q17, eq17, h⟩ := h
      refine qr_get (C := RX7) (T := TX7) (N := 35) (ci := 7) hx hb hts in7 hown hG hL3 fK4 (by decide) rfl 21 (by decide) rfl (hts (.fieldLink RX7 59 "QuayMeshModel" "target" "[I") (List.mem_of_getElem? (i := 5) rfl)) (fun _ h9 => h9) (v := .ref q17) (qs_rf eq17) dX7_send_176 ?_
      refine lv_aload_n hx hb dX7_send_179 rfl (lv_at hl 0 rfl) ?_
      refine qr_get (C := RX7) (T := TX7) (N := 35) (ci := 7) hx hb hts in7 hown hG hL3 fK4 (by decide) rfl 18 (by decide) rfl (hts (.fieldLink RX7 130 "QuayMeshModel" "messages" "I") (List.mem_of_getElem? (i := 2) rfl)) (fun _ h9 => h9) (v := .int (qs_I (qs_wA (qs_wA (qs_wI S 0 r0 s1) q7 v8.toNatClampNeg x1) q12 v13.toNatClampNeg x2) 18 a0)) rfl dX7_send_180 ?_
      refine lv_topi (fun v18 ev18 => ?_)
      have h := h v18 ev18
      refine lv_iload_n hx hb dX7_send_183 rfl (lv_at hl 3 rfl) ?_
      obtain ⟨⟨hL19, fK20⟩, h⟩ := h
      obtain ⟨hi21, h⟩ := h
      refine qr_iast hx hb hG hL19 fK20 hi21 dX7_send_184 (fun H locs hG => ?_)
      refine lv_aload_n hx hb dX7_send_185 rfl (lv_at hl 0 rfl) ?_
      refine lv_iload hx hb dX7_send_186 (lv_at hl 4 rfl) ?_
      refine lv_aload_n hx hb dX7_send_188 rfl (lv_at hl 0 rfl) ?_
      refine qr_get (C := RX7) (T := TX7) (N := 35) (ci := 7) hx hb hts in7 hown hG hL3 fK4 (by decide) rfl 18 (by decide) rfl (hts (.fieldLink RX7 130 "QuayMeshModel" "messages" "I") (List.mem_of_getElem? (i := 2) rfl)) (fun _ h9 => h9) (v := .int (qs_I (qs_wA (qs_wA (qs_wA (qs_wI S 0 r0 s1) q7 v8.toNatClampNeg x1) q12 v13.toNatClampNeg x2) q17 v18.toNatClampNeg x3) 18 a0)) rfl dX7_send_189 ?_
      refine lv_topi (fun v22 ev22 => ?_)
      have h := h v22 ev22
      refine qc_v hG (va_runV (As := [.int x5, .int v22]) (rest := []) ⟨hx, hb, hml, hown, hts⟩ (c_X7_joins l g _ (qs_wA (qs_wA (qs_wA (qs_wI S 0 r0 s1) q7 v8.toNatClampNeg x1) q12 v13.toNatClampNeg x2) q17 v18.toNatClampNeg x3) a0 x5 v22 h) (cwV 2 hts gX7_send_X7_joins rfl rfl rfl (by decide +kernel) ⟨(Nat.le_of_ble_eq_true rfl), (Nat.le_of_ble_eq_true rfl)⟩) ⟨qs_Pc.blind _ _ _ _, hG.recv hL3 fK4 (by decide) rfl, hG.pre _⟩ rfl rfl hl.1 rfl (lv_room (Nat.le_of_ble_eq_true rfl)) dX7_send_192 ⟨Nat.zero_le _, Nat.zero_le _⟩) (fun S25 H locs h hG => ?_)
      refine lv_aload_n hx hb dX7_send_195 rfl (lv_at hl 0 rfl) ?_
      refine lv_dup hx hb dX7_send_196 rfl ?_
      obtain ⟨⟨hL26, fK27⟩, h⟩ := h
      refine qr_get (C := RX7) (T := TX7) (N := 35) (ci := 7) hx hb hts in7 hown hG hL26 fK27 (by decide) rfl 18 (by decide) rfl (hts (.fieldLink RX7 130 "QuayMeshModel" "messages" "I") (List.mem_of_getElem? (i := 2) rfl)) (fun _ h9 => h9) (v := .int (qs_I S25 18 a0)) rfl dX7_send_197 ?_
      refine lv_topi (fun v28 ev28 => ?_)
      have h := h v28 ev28
      refine lv_iconst (v := (1 : Int32)) hx hb dX7_send_200 (by decide +kernel) ?_
      refine lv_iadd hx hb dX7_send_201 ?_
      refine lv_topi (fun v29 ev29 => ?_)
      have h := h v29 ev29
      refine qr_putI (C := RX7) (T := TX7) (N := 35) (ci := 7) hx hb hts in7 tyX7 tyX7_ok nmX7 hown hG hL26 fK27 (by decide) rfl 18 (by decide) rfl (hts (.fieldLink RX7 130 "QuayMeshModel" "messages" "I") (List.mem_of_getElem? (i := 2) rfl)) (fun _ h9 => h9) rfl (x := v29) (tyX7_ok 18 (by decide)) rfl rfl dX7_send_202 (fun H locs hG => ?_)
      refine lv_aload_n hx hb dX7_send_205 rfl (lv_at hl 0 rfl) ?_
      refine qr_get (C := RX7) (T := TX7) (N := 35) (ci := 7) hx hb hts in7 hown hG hL26 fK27 (by decide) rfl 18 (by decide) rfl (hts (.fieldLink RX7 130 "QuayMeshModel" "messages" "I") (List.mem_of_getElem? (i := 2) rfl)) (fun _ h9 => h9) (v := .int (qs_I (qs_wI S25 18 a0 v29) 18 a0)) rfl dX7_send_206 ?_
      refine lv_topi (fun v30 ev30 => ?_)
      have h := h v30 ev30
      refine lv_iconst (v := (1 : Int32)) hx hb dX7_send_209 (by decide +kernel) ?_
      refine lv_isub hx hb dX7_send_210 ?_
      refine lv_topi (fun v31 ev31 => ?_)
      have h := h v31 ev31
      exact qe_i hx hb hr hlk hG h (Nat.le_refl _) (Nat.le_refl _) dX7_send_211
    · have h := h.2 c6
      refine lv_iconst (v := (0 : Int32)) hx hb dX7_send_153 (by decide +kernel) ?_
      exact qe_i hx hb hr hlk hG h (Nat.le_refl _) (Nat.le_refl _) dX7_send_154
  have b126 : ∀ (S : qs_S) (a0 : Nat) (x1 : Int32) (x2 : Int32) (x3 : Int32) (s0 : Int32) (H : Heap) (locs : List Loc) (ls : Array Slot), wp_X7_send_b126 g.2.2.2.2.2.2.1 g.2.2.2.2.2.2.2 post S a0 x1 x2 x3 s0 → qs_Gd g (qs_F g SA s.heap.size) s S H locs → lv_has ls 6 [(0, .ref a0), (1, .int x1), (2, .int x2), (3, .int x3)] → W p l e (headSpec wsX7_send ({ frames := 2, cells := 0, slots := 0, locals := 43 } : Room)).room s m (([.ref a0z, .int x1z, .int x2z, .int x3z, .int x4z] : List Value)).toArray below meth c H locs 0 0 (MQ below (qs_Qi g (qs_F g SA s.heap.size) post) (([.ref a0z, .int x1z, .int x2z, .int x3z, .int x4z] : List Value)).toArray s 0 0 (qs_F g SA s.heap.size)) (F0 m 126 ls [.int s0]) := by
    intro S a0 x1 x2 x3 s0 H locs ls h hG hl
    unfold wp_X7_send_b126 at h
    refine lv_istore (lv' := [(5, .int s0), (0, .ref a0), (1, .int x1), (2, .int x2), (3, .int x3)]) hx hb dX7_send_126 hl (by decide) rfl (fun ls hl => ?_)
    refine lv_aload_n hx hb dX7_send_128 rfl (lv_at hl 1 rfl) ?_
    refine lv_iload hx hb dX7_send_129 (lv_at hl 0 rfl) ?_
    refine lv_iconst (v := (-1 : Int32)) hx hb dX7_send_131 (by decide +kernel) ?_
    refine lv_icmp_ne (tgt := 139) hx hb dX7_send_132 (by decide) (fun c32 => ?_) (fun c32 => ?_)
    · have h := h.1 c32
      refine lv_aload_n hx hb dX7_send_139 rfl (lv_at hl 1 rfl) ?_
      obtain ⟨⟨hL33, fK34⟩, h⟩ := h
      refine qr_get (C := RX7) (T := TX7) (N := 35) (ci := 7) hx hb hts in7 hown hG hL33 fK34 (by decide) rfl 0 (by decide) rfl (hts (.fieldLink RX7 95 "QuayMeshModel" "thrown" "I") (List.mem_of_getElem? (i := 1) rfl)) (fun _ h9 => h9) (v := .int (qs_I S 0 a0)) rfl dX7_send_140 ?_
      refine lv_topi (fun v35 ev35 => ?_)
      have h := h v35 ev35
      exact b143 S a0 x1 x2 x3 s0 a0 v35 _ _ ls h hG (lv_sub hl [1, 2, 3, 4, 0] rfl)
    · have h := h.2 c32
      refine lv_iconst (v := (3 : Int32)) hx hb dX7_send_135 (by decide +kernel) ?_
      refine lv_goto (tgt := 143) hx hb dX7_send_136 (by decide) ?_
      exact b143 S a0 x1 x2 x3 s0 a0 (3 : Int32) _ _ ls h hG (lv_sub hl [1, 2, 3, 4, 0] rfl)
  have b99 : ∀ (S : qs_S) (a0 : Nat) (x1 : Int32) (x2 : Int32) (x3 : Int32) (x4 : Int32) (H : Heap) (locs : List Loc) (ls : Array Slot), wp_X7_send_b99 g.2.2.2.2.2.2.1 g.2.2.2.2.2.2.2 post S a0 x1 x2 x3 x4 → qs_Gd g (qs_F g SA s.heap.size) s S H locs → lv_has ls 6 [(0, .ref a0), (1, .int x1), (2, .int x2), (3, .int x3), (4, .int x4)] → W p l e (headSpec wsX7_send ({ frames := 2, cells := 0, slots := 0, locals := 43 } : Room)).room s m (([.ref a0z, .int x1z, .int x2z, .int x3z, .int x4z] : List Value)).toArray below meth c H locs 0 0 (MQ below (qs_Qi g (qs_F g SA s.heap.size) post) (([.ref a0z, .int x1z, .int x2z, .int x3z, .int x4z] : List Value)).toArray s 0 0 (qs_F g SA s.heap.size)) (F0 m 99 ls []) := by
    intro S a0 x1 x2 x3 x4 H locs ls h hG hl
    unfold wp_X7_send_b99 at h
    refine lv_aload_n hx hb dX7_send_99 rfl (lv_at hl 0 rfl) ?_
    obtain ⟨⟨hL36, fK37⟩, h⟩ := h
    refine qr_get (C := RX7) (T := TX7) (N := 35) (ci := 7) hx hb hts in7 hown hG hL36 fK37 (by decide) rfl 0 (by decide) rfl (hts (.fieldLink RX7 95 "QuayMeshModel" "thrown" "I") (List.mem_of_getElem? (i := 1) rfl)) (fun _ h9 => h9) (v := .int (qs_I S 0 a0)) rfl dX7_send_100 ?_
    refine lv_topi (fun v38 ev38 => ?_)
    have h := h v38 ev38
    refine lv_if_le (tgt := 110) hx hb dX7_send_103 (by decide) (fun c39 => ?_) (fun c39 => ?_)
    · have h := h.1 c39
      refine lv_iload hx hb dX7_send_110 (lv_at hl 4 rfl) ?_
      refine lv_iconst (v := (-1 : Int32)) hx hb dX7_send_112 (by decide +kernel) ?_
      refine lv_icmp_ne (tgt := 124) hx hb dX7_send_113 (by decide) (fun c40 => ?_) (fun c40 => ?_)
      · have h := h.1 c40
        refine lv_iload hx hb dX7_send_124 (lv_at hl 4 rfl) ?_
        exact b126 S a0 x1 x2 x3 x4 _ _ ls h hG (lv_sub hl [0, 1, 2, 3] rfl)
      · have h := h.2 c40
        refine lv_aload_n hx hb dX7_send_116 rfl (lv_at hl 0 rfl) ?_
        refine lv_iload_n hx hb dX7_send_117 rfl (lv_at hl 1 rfl) ?_
        refine qc_i hG (va_runV (As := [.int x1]) (rest := []) ⟨hx, hb, hml, hown, hts⟩ (c_X7_freest l g _ S a0 x1 h) (cwV 1 hts gX7_send_X7_freest rfl rfl rfl (by decide +kernel) ⟨(Nat.le_of_ble_eq_true rfl), (Nat.le_of_ble_eq_true rfl)⟩) ⟨qs_Pc.blind _ _ _ _, hG.recv hL36 fK37 (by decide) rfl, hG.pre _⟩ rfl rfl hl.1 rfl (lv_room (Nat.le_of_ble_eq_true rfl)) dX7_send_118 ⟨Nat.zero_le _, Nat.zero_le _⟩) (fun v44 S43 H locs h hG => ?_)
        refine lv_goto (tgt := 126) hx hb dX7_send_121 (by decide) ?_
        exact b126 S43 a0 x1 x2 x3 v44 _ _ ls h hG (lv_sub hl [0, 1, 2, 3] rfl)
    · have h := h.2 c39
      refine lv_iconst (v := (0 : Int32)) hx hb dX7_send_106 (by decide +kernel) ?_
      refine lv_goto (tgt := 126) hx hb dX7_send_107 (by decide) ?_
      exact b126 S a0 x1 x2 x3 (0 : Int32) _ _ ls h hG (lv_sub hl [0, 1, 2, 3] rfl)
  have b96 : ∀ (S : qs_S) (a0 : Nat) (x1 : Int32) (x2 : Int32) (x3 : Int32) (x4 : Int32) (r0 : Nat) (s1 : Int32) (H : Heap) (locs : List Loc) (ls : Array Slot), wp_X7_send_b96 g.2.2.2.2.2.2.1 g.2.2.2.2.2.2.2 post S a0 x1 x2 x3 x4 r0 s1 → qs_Gd g (qs_F g SA s.heap.size) s S H locs → lv_has ls 6 [(0, .ref a0), (1, .int x1), (2, .int x2), (3, .int x3), (4, .int x4)] → W p l e (headSpec wsX7_send ({ frames := 2, cells := 0, slots := 0, locals := 43 } : Room)).room s m (([.ref a0z, .int x1z, .int x2z, .int x3z, .int x4z] : List Value)).toArray below meth c H locs 0 0 (MQ below (qs_Qi g (qs_F g SA s.heap.size) post) (([.ref a0z, .int x1z, .int x2z, .int x3z, .int x4z] : List Value)).toArray s 0 0 (qs_F g SA s.heap.size)) (F0 m 96 ls [.int s1, .ref r0]) := by
    intro S a0 x1 x2 x3 x4 r0 s1 H locs ls h hG hl
    unfold wp_X7_send_b96 at h
    obtain ⟨⟨hL45, fK46⟩, h⟩ := h
    refine qr_putI (C := RX7) (T := TX7) (N := 35) (ci := 7) hx hb hts in7 tyX7 tyX7_ok nmX7 hown hG hL45 fK46 (by decide) rfl 0 (by decide) rfl (hts (.fieldLink RX7 95 "QuayMeshModel" "thrown" "I") (List.mem_of_getElem? (i := 1) rfl)) (fun _ h9 => h9) rfl (x := s1) (tyX7_ok 0 (by decide)) rfl rfl dX7_send_96 (fun H locs hG => ?_)
    exact b99 (qs_wI S 0 r0 s1) a0 x1 x2 x3 x4 _ _ ls h hG (lv_sub hl [0, 1, 2, 3, 4] rfl)
  have b78 : ∀ (S : qs_S) (a0 : Nat) (x1 : Int32) (x2 : Int32) (x3 : Int32) (x4 : Int32) (r0 : Nat) (H : Heap) (locs : List Loc) (ls : Array Slot), wp_X7_send_b78 g.2.2.2.2.2.2.1 g.2.2.2.2.2.2.2 post S a0 x1 x2 x3 x4 r0 → qs_Gd g (qs_F g SA s.heap.size) s S H locs → lv_has ls 6 [(0, .ref a0), (1, .int x1), (2, .int x2), (3, .int x3), (4, .int x4)] → W p l e (headSpec wsX7_send ({ frames := 2, cells := 0, slots := 0, locals := 43 } : Room)).room s m (([.ref a0z, .int x1z, .int x2z, .int x3z, .int x4z] : List Value)).toArray below meth c H locs 0 0 (MQ below (qs_Qi g (qs_F g SA s.heap.size) post) (([.ref a0z, .int x1z, .int x2z, .int x3z, .int x4z] : List Value)).toArray s 0 0 (qs_F g SA s.heap.size)) (F0 m 78 ls [.ref r0]) := by
    intro S a0 x1 x2 x3 x4 r0 H locs ls h hG hl
    unfold wp_X7_send_b78 at h
    refine lv_iconst (v := (2 : Int32)) hx hb dX7_send_78 (by decide +kernel) ?_
    refine lv_goto (tgt := 96) hx hb dX7_send_79 (by decide) ?_
    exact b96 S a0 x1 x2 x3 x4 r0 (2 : Int32) _ _ ls h hG (lv_sub hl [0, 1, 2, 3, 4] rfl)
  have b54 : ∀ (S : qs_S) (a0 : Nat) (x1 : Int32) (x2 : Int32) (x3 : Int32) (x4 : Int32) (s0 : Int32) (H : Heap) (locs : List Loc) (ls : Array Slot), wp_X7_send_b54 g.2.2.2.2.2.2.1 g.2.2.2.2.2.2.2 post S a0 x1 x2 x3 x4 s0 → qs_Gd g (qs_F g SA s.heap.size) s S H locs → lv_has ls 6 [(0, .ref a0), (1, .int x1), (2, .int x2), (3, .int x3), (4, .int x4)] → W p l e (headSpec wsX7_send ({ frames := 2, cells := 0, slots := 0, locals := 43 } : Room)).room s m (([.ref a0z, .int x1z, .int x2z, .int x3z, .int x4z] : List Value)).toArray below meth c H locs 0 0 (MQ below (qs_Qi g (qs_F g SA s.heap.size) post) (([.ref a0z, .int x1z, .int x2z, .int x3z, .int x4z] : List Value)).toArray s 0 0 (qs_F g SA s.heap.size)) (F0 m 54 ls [.int s0]) := by
    intro S a0 x1 x2 x3 x4 s0 H locs ls h hG hl
    unfold wp_X7_send_b54 at h
    refine lv_istore (lv' := [(5, .int s0), (0, .ref a0), (1, .int x1), (2, .int x2), (3, .int x3), (4, .int x4)]) hx hb dX7_send_54 hl (by decide) rfl (fun ls hl => ?_)
    refine lv_aload_n hx hb dX7_send_56 rfl (lv_at hl 1 rfl) ?_
    refine lv_aload_n hx hb dX7_send_57 rfl (lv_at hl 1 rfl) ?_
    refine lv_iload_n hx hb dX7_send_58 rfl (lv_at hl 3 rfl) ?_
    obtain ⟨⟨hL49, fK50⟩, h⟩ := h
    refine qc_i hG (va_runV (As := [.int x2]) (rest := [.ref a0]) ⟨hx, hb, hml, hown, hts⟩ (c_X7_isBox l g _ S a0 x2 h) (cwV 1 hts gX7_send_X7_isBox rfl rfl rfl (by decide +kernel) ⟨(Nat.le_of_ble_eq_true rfl), (Nat.le_of_ble_eq_true rfl)⟩) ⟨qs_Pc.blind _ _ _ _, hG.recv hL49 fK50 (by decide) rfl, hG.pre _⟩ rfl rfl hl.1 rfl (lv_room (Nat.le_of_ble_eq_true rfl)) dX7_send_59 ⟨Nat.zero_le _, Nat.zero_le _⟩) (fun v52 S51 H locs h hG => ?_)
    refine lv_if_eq (tgt := 78) hx hb dX7_send_62 (by decide) (fun c53 => ?_) (fun c53 => ?_)
    · have h := h.1 c53
      exact b78 S51 a0 x1 x2 x3 x4 a0 _ _ ls h hG (lv_sub hl [1, 2, 3, 4, 5] rfl)
    · have h := h.2 c53
      refine lv_iload_n hx hb dX7_send_65 rfl (lv_at hl 2 rfl) ?_
      refine lv_iload_n hx hb dX7_send_66 rfl (lv_at hl 4 rfl) ?_
      refine qc_i hG (va_runS (As := [.int x1, .int x3]) (rest := [.ref a0]) ⟨hx, hb, hml, hown, hts⟩ (c_X7_isTarget l g _ S51 x1 x3 h) (va_cwS 2 hts gX7_send_X7_isTarget rfl rfl rfl (by decide +kernel) ⟨(Nat.le_of_ble_eq_true rfl), (Nat.le_of_ble_eq_true rfl)⟩) ⟨qs_Pc.blind _ _ _ _, hG.pre _⟩ rfl rfl hl.1 rfl (lv_room (Nat.le_of_ble_eq_true rfl)) dX7_send_67 ⟨Nat.zero_le _, Nat.zero_le _⟩) (fun v57 S56 H locs h hG => ?_)
      refine lv_if_eq (tgt := 78) hx hb dX7_send_70 (by decide) (fun c58 => ?_) (fun c58 => ?_)
      · have h := h.1 c58
        exact b78 S56 a0 x1 x2 x3 x4 a0 _ _ ls h hG (lv_sub hl [1, 2, 3, 4, 5] rfl)
      · have h := h.2 c58
        refine lv_iload hx hb dX7_send_73 (lv_at hl 0 rfl) ?_
        refine lv_if_ne (tgt := 82) hx hb dX7_send_75 (by decide) (fun c59 => ?_) (fun c59 => ?_)
        · have h := h.1 c59
          refine lv_aload_n hx hb dX7_send_82 rfl (lv_at hl 1 rfl) ?_
          obtain ⟨⟨hL60, fK61⟩, h⟩ := h
          refine qr_get (C := RX7) (T := TX7) (N := 35) (ci := 7) hx hb hts in7 hown hG hL60 fK61 (by decide) rfl 18 (by decide) rfl (hts (.fieldLink RX7 130 "QuayMeshModel" "messages" "I") (List.mem_of_getElem? (i := 2) rfl)) (fun _ h9 => h9) (v := .int (qs_I S56 18 a0)) rfl dX7_send_83 ?_
          refine lv_topi (fun v62 ev62 => ?_)
          have h := h v62 ev62
          refine lv_bipush (v := (80 : Int32)) hx hb dX7_send_86 (by decide +kernel) ?_
          refine lv_icmp_ne (tgt := 95) hx hb dX7_send_88 (by decide) (fun c63 => ?_) (fun c63 => ?_)
          · have h := h.1 c63
            refine lv_iconst (v := (0 : Int32)) hx hb dX7_send_95 (by decide +kernel) ?_
            exact b96 S56 a0 x1 x2 x3 x4 a0 (0 : Int32) _ _ ls h hG (lv_sub hl [1, 2, 3, 4, 5] rfl)
          · have h := h.2 c63
            refine lv_iconst (v := (3 : Int32)) hx hb dX7_send_91 (by decide +kernel) ?_
            refine lv_goto (tgt := 96) hx hb dX7_send_92 (by decide) ?_
            exact b96 S56 a0 x1 x2 x3 x4 a0 (3 : Int32) _ _ ls h hG (lv_sub hl [1, 2, 3, 4, 5] rfl)
        · have h := h.2 c59
          exact b78 S56 a0 x1 x2 x3 x4 a0 _ _ ls h hG (lv_sub hl [1, 2, 3, 4, 5] rfl)
  have b49 : ∀ (S : qs_S) (a0 : Nat) (x1 : Int32) (x2 : Int32) (x3 : Int32) (x4 : Int32) (H : Heap) (locs : List Loc) (ls : Array Slot), wp_X7_send_b49 g.2.2.2.2.2.2.1 g.2.2.2.2.2.2.2 post S a0 x1 x2 x3 x4 → qs_Gd g (qs_F g SA s.heap.size) s S H locs → lv_has ls 6 [(0, .ref a0), (1, .int x1), (2, .int x2), (3, .int x3), (4, .int x4)] → W p l e (headSpec wsX7_send ({ frames := 2, cells := 0, slots := 0, locals := 43 } : Room)).room s m (([.ref a0z, .int x1z, .int x2z, .int x3z, .int x4z] : List Value)).toArray below meth c H locs 0 0 (MQ below (qs_Qi g (qs_F g SA s.heap.size) post) (([.ref a0z, .int x1z, .int x2z, .int x3z, .int x4z] : List Value)).toArray s 0 0 (qs_F g SA s.heap.size)) (F0 m 49 ls []) := by
    intro S a0 x1 x2 x3 x4 H locs ls h hG hl
    unfold wp_X7_send_b49 at h
    refine lv_iconst (v := (1 : Int32)) hx hb dX7_send_49 (by decide +kernel) ?_
    refine lv_goto (tgt := 54) hx hb dX7_send_50 (by decide) ?_
    exact b54 S a0 x1 x2 x3 x4 (1 : Int32) _ _ ls h hG (lv_sub hl [0, 1, 2, 3, 4] rfl)
  have b15 : ∀ (S : qs_S) (a0 : Nat) (x1 : Int32) (x2 : Int32) (x3 : Int32) (x4 : Int32) (r0 : Nat) (s1 : Int32) (H : Heap) (locs : List Loc) (ls : Array Slot), wp_X7_send_b15 g.2.2.2.2.2.2.1 g.2.2.2.2.2.2.2 post S a0 x1 x2 x3 x4 r0 s1 → qs_Gd g (qs_F g SA s.heap.size) s S H locs → lv_has ls 6 [(0, .ref a0), (1, .int x1), (2, .int x2), (3, .int x3), (4, .int x4)] → W p l e (headSpec wsX7_send ({ frames := 2, cells := 0, slots := 0, locals := 43 } : Room)).room s m (([.ref a0z, .int x1z, .int x2z, .int x3z, .int x4z] : List Value)).toArray below meth c H locs 0 0 (MQ below (qs_Qi g (qs_F g SA s.heap.size) post) (([.ref a0z, .int x1z, .int x2z, .int x3z, .int x4z] : List Value)).toArray s 0 0 (qs_F g SA s.heap.size)) (F0 m 15 ls [.int s1, .ref r0]) := by
    intro S a0 x1 x2 x3 x4 r0 s1 H locs ls h hG hl
    unfold wp_X7_send_b15 at h
    obtain ⟨⟨hL64, fK65⟩, h⟩ := h
    refine qr_putI (C := RX7) (T := TX7) (N := 35) (ci := 7) hx hb hts in7 tyX7 tyX7_ok nmX7 hown hG hL64 fK65 (by decide) rfl 0 (by decide) rfl (hts (.fieldLink RX7 95 "QuayMeshModel" "thrown" "I") (List.mem_of_getElem? (i := 1) rfl)) (fun _ h9 => h9) rfl (x := s1) (tyX7_ok 0 (by decide)) rfl rfl dX7_send_15 (fun H locs hG => ?_)
    refine lv_aload_n hx hb dX7_send_18 rfl (lv_at hl 0 rfl) ?_
    obtain ⟨⟨hL66, fK67⟩, h⟩ := h
    refine qr_get (C := RX7) (T := TX7) (N := 35) (ci := 7) hx hb hts in7 hown hG hL66 fK67 (by decide) rfl 0 (by decide) rfl (hts (.fieldLink RX7 95 "QuayMeshModel" "thrown" "I") (List.mem_of_getElem? (i := 1) rfl)) (fun _ h9 => h9) (v := .int (qs_I (qs_wI S 0 r0 s1) 0 a0)) rfl dX7_send_19 ?_
    refine lv_topi (fun v68 ev68 => ?_)
    have h := h v68 ev68
    refine lv_if_ne (tgt := 99) hx hb dX7_send_22 (by decide) (fun c69 => ?_) (fun c69 => ?_)
    · have h := h.1 c69
      exact b99 (qs_wI S 0 r0 s1) a0 x1 x2 x3 x4 _ _ ls h hG (lv_sub hl [0, 1, 2, 3, 4] rfl)
    · have h := h.2 c69
      refine lv_iload hx hb dX7_send_25 (lv_at hl 4 rfl) ?_
      refine lv_iconst (v := (-1 : Int32)) hx hb dX7_send_27 (by decide +kernel) ?_
      refine lv_icmp_eq (tgt := 49) hx hb dX7_send_28 (by decide) (fun c70 => ?_) (fun c70 => ?_)
      · have h := h.1 c70
        exact b49 (qs_wI S 0 r0 s1) a0 x1 x2 x3 x4 _ _ ls h hG (lv_sub hl [0, 1, 2, 3, 4] rfl)
      · have h := h.2 c70
        refine lv_iload hx hb dX7_send_31 (lv_at hl 4 rfl) ?_
        refine lv_iload_n hx hb dX7_send_33 rfl (lv_at hl 1 rfl) ?_
        refine qc_i hG (va_runS (As := [.int x1]) (rest := [.int x4]) ⟨hx, hb, hml, hown, hts⟩ (c_X7_firstFor l g _ (qs_wI S 0 r0 s1) x1 h) (va_cwS 1 hts gX7_send_X7_firstFor rfl rfl rfl (by decide +kernel) ⟨(Nat.le_of_ble_eq_true rfl), (Nat.le_of_ble_eq_true rfl)⟩) ⟨qs_Pc.blind _ _ _ _, hG.pre _⟩ rfl rfl hl.1 rfl (lv_room (Nat.le_of_ble_eq_true rfl)) dX7_send_34 ⟨Nat.zero_le _, Nat.zero_le _⟩) (fun v74 S73 H locs h hG => ?_)
        refine lv_iload_n hx hb dX7_send_37 rfl (lv_at hl 1 rfl) ?_
        refine qc_i hG (va_runS (As := [.int x1]) (rest := [.int v74, .int x4]) ⟨hx, hb, hml, hown, hts⟩ (c_X7_firstFor l g _ S73 x1 h) (va_cwS 1 hts gX7_send_X7_firstFor rfl rfl rfl (by decide +kernel) ⟨(Nat.le_of_ble_eq_true rfl), (Nat.le_of_ble_eq_true rfl)⟩) ⟨qs_Pc.blind _ _ _ _, hG.pre _⟩ rfl rfl hl.1 rfl (lv_room (Nat.le_of_ble_eq_true rfl)) dX7_send_38 ⟨Nat.zero_le _, Nat.zero_le _⟩) (fun v78 S77 H locs h hG => ?_)
        refine lv_iconst (v := (3 : Int32)) hx hb dX7_send_41 (by decide +kernel) ?_
        refine lv_iadd hx hb dX7_send_42 ?_
        refine lv_topi (fun v79 ev79 => ?_)
        have h := h v79 ev79
        refine qc_i hG (va_runS (As := [.int x4, .int v74, .int v79]) (rest := []) ⟨hx, hb, hml, hown, hts⟩ (c_X7_in l g _ S77 x4 v74 v79 h) (va_cwS 3 hts gX7_send_X7_in rfl rfl rfl (by decide +kernel) ⟨(Nat.le_of_ble_eq_true rfl), (Nat.le_of_ble_eq_true rfl)⟩) ⟨qs_Pc.blind _ _ _ _, hG.pre _⟩ rfl rfl hl.1 rfl (lv_room (Nat.le_of_ble_eq_true rfl)) dX7_send_43 ⟨Nat.zero_le _, Nat.zero_le _⟩) (fun v83 S82 H locs h hG => ?_)
        refine lv_if_eq (tgt := 53) hx hb dX7_send_46 (by decide) (fun c84 => ?_) (fun c84 => ?_)
        · have h := h.1 c84
          refine lv_iconst (v := (0 : Int32)) hx hb dX7_send_53 (by decide +kernel) ?_
          exact b54 S82 a0 x1 x2 x3 x4 (0 : Int32) _ _ ls h hG (lv_sub hl [0, 1, 2, 3, 4] rfl)
        · have h := h.2 c84
          exact b49 S82 a0 x1 x2 x3 x4 _ _ ls h hG (lv_sub hl [0, 1, 2, 3, 4] rfl)
  have hl := lv_entry ([.ref a0z, .int x1z, .int x2z, .int x3z, .int x4z]) (n := 6) (Nat.le_of_ble_eq_true rfl)
  rw [lg_entry_eq]
  generalize (lg_sl ([.ref a0z, .int x1z, .int x2z, .int x3z, .int x4z]) ++ List.replicate (6 - (lg_sl ([.ref a0z, .int x1z, .int x2z, .int x3z, .int x4z])).length) Slot.unset).toArray = ls at hl ⊢
  have hl : lv_has ls 6 [(0, .ref a0z), (1, .int x1z), (2, .int x2z), (3, .int x3z), (4, .int x4z)] := hl
  unfold wp_X7_send at h
  refine lv_aload_n hx hb dX7_send_0 rfl (lv_at hl 0 rfl) ?_
  refine lv_iload_n hx hb dX7_send_1 rfl (lv_at hl 1 rfl) ?_
  refine lv_iconst (v := (0 : Int32)) hx hb dX7_send_2 (by decide +kernel) ?_
  refine lv_iconst (v := (2 : Int32)) hx hb dX7_send_3 (by decide +kernel) ?_
  refine qc_i hG (va_runS (As := [.int x1z, .int (0 : Int32), .int (2 : Int32)]) (rest := [.ref a0z]) ⟨hx, hb, hml, hown, hts⟩ (c_X7_in l g _ SA x1z (0 : Int32) (2 : Int32) h) (va_cwS 3 hts gX7_send_X7_in rfl rfl rfl (by decide +kernel) ⟨(Nat.le_of_ble_eq_true rfl), (Nat.le_of_ble_eq_true rfl)⟩) ⟨qs_Pc.blind _ _ _ _, hG.pre _⟩ rfl rfl hl.1 rfl (lv_room (Nat.le_of_ble_eq_true rfl)) dX7_send_4 ⟨Nat.zero_le _, Nat.zero_le _⟩) (fun v88 S87 H locs h hG => ?_)
  refine lv_if_eq (tgt := 14) hx hb dX7_send_7 (by decide) (fun c89 => ?_) (fun c89 => ?_)
  · have h := h.1 c89
    refine lv_iconst (v := (1 : Int32)) hx hb dX7_send_14 (by decide +kernel) ?_
    exact b15 S87 a0z x1z x2z x3z x4z a0z (1 : Int32) _ _ ls h hG (lv_sub hl [0, 1, 2, 3, 4] rfl)
  · have h := h.2 c89
    refine lv_iconst (v := (0 : Int32)) hx hb dX7_send_10 (by decide +kernel) ?_
    refine lv_goto (tgt := 15) hx hb dX7_send_11 (by decide) ?_
    exact b15 S87 a0z x1z x2z x3z x4z a0z (0 : Int32) _ _ ls h hG (lv_sub hl [0, 1, 2, 3, 4] rfl)
def wp_X7_acknowledges_b79 (t0 m9 : Nat) (post : Int32 → qs_S → Prop) (S : qs_S) : Prop := post (4 : Int32) S
def wp_X7_acknowledges (t0 m9 : Nat) (post : Int32 → qs_S → Prop) (SA : qs_S) (a0z : Nat) (x1z : Int32) (x2z : Int32) : Prop := (a0z ∈ qs_L SA ∧ qs_K SA a0z = 7) ∧ (∃ q3 : Nat, qs_R SA 32 a0z = some q3 ∧ ((q3 ∈ qs_L SA ∧ qs_K SA q3 = 8) ∧ (vp_in x1z (qs_Z SA q3) ∧ (∀ v7 : Int32, v7 = qs_A SA q3 x1z.toNatClampNeg → (v7 ≤ 0 → (∃ q9 : Nat, qs_R SA 33 a0z = some q9 ∧ ((q9 ∈ qs_L SA ∧ qs_K SA q9 = 8) ∧ (vp_in x1z (qs_Z SA q9) ∧ (wp_X7_quits t0 m9 (fun (S15 : qs_S) => (a0z ∈ qs_L S15 ∧ qs_K S15 a0z = 7) ∧ (∃ q18 : Nat, qs_R S15 23 a0z = some q18 ∧ ((q18 ∈ qs_L S15 ∧ qs_K S15 q18 = 8) ∧ (vp_in x2z (qs_Z S15 q18) ∧ (∀ v22 : Int32, v22 = qs_A S15 q18 x2z.toNatClampNeg → (v22 ≤ 0 → (wp_X7_acknowledges_b79 t0 m9 post S15)) ∧ (¬ v22 ≤ 0 → (∃ q24 : Nat, qs_R S15 24 a0z = some q24 ∧ ((q24 ∈ qs_L S15 ∧ qs_K S15 q24 = 9) ∧ (vp_in x2z (qs_Z S15 q24) ∧ (∀ v28 : Int32, v28 = qs_A S15 q24 x2z.toNatClampNeg → (¬ v28 = 0 → (wp_X7_acknowledges_b79 t0 m9 post S15)) ∧ (v28 = 0 → (∃ q30 : Nat, qs_R S15 24 a0z = some q30 ∧ ((q30 ∈ qs_L S15 ∧ qs_K S15 q30 = 9) ∧ (vp_in x2z (qs_Z S15 q30) ∧ (∃ q34 : Nat, qs_R (qs_wA S15 q30 x2z.toNatClampNeg (1 : Int32)) 28 a0z = some q34 ∧ (∀ v35 : Int32, v35 = qs_I (qs_wA S15 q30 x2z.toNatClampNeg (1 : Int32)) 27 a0z → (q34 ∈ qs_L (qs_wA S15 q30 x2z.toNatClampNeg (1 : Int32)) ∧ qs_K (qs_wA S15 q30 x2z.toNatClampNeg (1 : Int32)) q34 = 8) ∧ (vp_in v35 (qs_Z (qs_wA S15 q30 x2z.toNatClampNeg (1 : Int32)) q34) ∧ (∀ v39 : Int32, v39 = qs_I (qs_wA (qs_wA S15 q30 x2z.toNatClampNeg (1 : Int32)) q34 v35.toNatClampNeg x2z) 27 a0z → ∀ v40 : Int32, v40 = v39 + (1 : Int32) → wp_X7_acknowledges_b79 t0 m9 post (qs_wI (qs_wA (qs_wA S15 q30 x2z.toNatClampNeg (1 : Int32)) q34 v35.toNatClampNeg x2z) 27 a0z v40))))))))))))))))))) (qs_wA SA q9 x1z.toNatClampNeg x2z) a0z x1z x2z))))) ∧ (¬ v7 ≤ 0 → (∃ q41 : Nat, qs_R SA 32 a0z = some q41 ∧ ((q41 ∈ qs_L SA ∧ qs_K SA q41 = 8) ∧ (vp_in x1z (qs_Z SA q41) ∧ (∀ v45 : Int32, v45 = qs_A SA q41 x1z.toNatClampNeg → ∀ v46 : Int32, v46 = v45 - (1 : Int32) → vp_in x1z (qs_Z SA q41) ∧ (post (5 : Int32) (qs_wA SA q41 x1z.toNatClampNeg v46)))))))))))
set_option maxHeartbeats 4000000 in
set_option maxRecDepth 100000 in
theorem c_X7_acknowledges (l : Launch) (g : qs_G) (sz : Nat) (SA : qs_S) (a0z : Nat) (x1z : Int32) (x2z : Int32) {post : Int32 → qs_S → Prop} (h : wp_X7_acknowledges g.2.2.2.2.2.2.1 g.2.2.2.2.2.2.2 post SA a0z x1z x2z) : Met l yX7_acknowledges wsX7_acknowledges ({ frames := 1, cells := 0, slots := 0, locals := 25 } : Room) (qs_Pc g sz SA [.ref a0z, .int x1z, .int x2z]) (qs_Qi g (qs_F g SA sz) post) 0 0 (qs_F g SA sz) := by
  refine Met.ofW (cc := cX7_acknowledges) (maxL := 3) (ret := (some .int)) (by decide +kernel) rfl ?_
  intro p e s m args below meth c s₁ B hml hv
  obtain ⟨rfl, hsz, hG⟩ := qs_Gd.start hv
  subst hsz
  have hx := B.exec
  have hb := B.bytes
  have hr := B.returns
  have hts := atoms_spec (ws := wsX7_acknowledges) B.pre
  have hown : s.vm.findClass RX7 = some m.cls := findClass_of_methodNamed B.named
  have hlk := B.notSynchronized
  have in7 : ∀ w ∈ u_ws RX7 TX7 35, w ∈ wsX7_acknowledges := fun w h => List.mem_cons_of_mem _ (List.mem_append_right _ (h))
  have b79 : ∀ (S : qs_S) (H : Heap) (locs : List Loc) (ls : Array Slot), wp_X7_acknowledges_b79 g.2.2.2.2.2.2.1 g.2.2.2.2.2.2.2 post S → qs_Gd g (qs_F g SA s.heap.size) s S H locs → lv_has ls 3 [] → W p l e (headSpec wsX7_acknowledges ({ frames := 1, cells := 0, slots := 0, locals := 25 } : Room)).room s m (([.ref a0z, .int x1z, .int x2z] : List Value)).toArray below meth c H locs 0 0 (MQ below (qs_Qi g (qs_F g SA s.heap.size) post) (([.ref a0z, .int x1z, .int x2z] : List Value)).toArray s 0 0 (qs_F g SA s.heap.size)) (F0 m 79 ls []) := by
    intro S H locs ls h hG hl
    unfold wp_X7_acknowledges_b79 at h
    refine lv_iconst (v := (4 : Int32)) hx hb dX7_acknowledges_79 (by decide +kernel) ?_
    exact qe_i hx hb hr hlk hG h (Nat.le_refl _) (Nat.le_refl _) dX7_acknowledges_80
  have hl := lv_entry ([.ref a0z, .int x1z, .int x2z]) (n := 3) (Nat.le_of_ble_eq_true rfl)
  rw [lg_entry_eq]
  generalize (lg_sl ([.ref a0z, .int x1z, .int x2z]) ++ List.replicate (3 - (lg_sl ([.ref a0z, .int x1z, .int x2z])).length) Slot.unset).toArray = ls at hl ⊢
  have hl : lv_has ls 3 [(0, .ref a0z), (1, .int x1z), (2, .int x2z)] := hl
  unfold wp_X7_acknowledges at h
  refine lv_aload_n hx hb dX7_acknowledges_0 rfl (lv_at hl 0 rfl) ?_
  obtain ⟨⟨hL1, fK2⟩, h⟩ := h
  obtain ⟨q3, eq3, h⟩ := h
  refine qr_get (C := RX7) (T := TX7) (N := 35) (ci := 7) hx hb hts in7 hown hG hL1 fK2 (by decide) rfl 32 (by decide) rfl (hts (.fieldLink RX7 86 "QuayMeshModel" "ackLossDue" "[I") (List.mem_of_getElem? (i := 1) rfl)) (fun _ h9 => h9) (v := .ref q3) (qs_rf eq3) dX7_acknowledges_1 ?_
  refine lv_iload_n hx hb dX7_acknowledges_4 rfl (lv_at hl 1 rfl) ?_
  obtain ⟨⟨hL4, fK5⟩, h⟩ := h
  obtain ⟨hi6, h⟩ := h
  refine qr_iald hx hb hG hL4 fK5 hi6 rfl dX7_acknowledges_5 ?_
  refine lv_topi (fun v7 ev7 => ?_)
  have h := h v7 ev7
  refine lv_if_le (tgt := 21) hx hb dX7_acknowledges_6 (by decide) (fun c8 => ?_) (fun c8 => ?_)
  · have h := h.1 c8
    refine lv_aload_n hx hb dX7_acknowledges_21 rfl (lv_at hl 0 rfl) ?_
    obtain ⟨q9, eq9, h⟩ := h
    refine qr_get (C := RX7) (T := TX7) (N := 35) (ci := 7) hx hb hts in7 hown hG hL1 fK2 (by decide) rfl 33 (by decide) rfl (hts (.fieldLink RX7 89 "QuayMeshModel" "lastHeard" "[I") (List.mem_of_getElem? (i := 2) rfl)) (fun _ h9 => h9) (v := .ref q9) (qs_rf eq9) dX7_acknowledges_22 ?_
    refine lv_iload_n hx hb dX7_acknowledges_25 rfl (lv_at hl 1 rfl) ?_
    refine lv_iload_n hx hb dX7_acknowledges_26 rfl (lv_at hl 2 rfl) ?_
    obtain ⟨⟨hL10, fK11⟩, h⟩ := h
    obtain ⟨hi12, h⟩ := h
    refine qr_iast hx hb hG hL10 fK11 hi12 dX7_acknowledges_27 (fun H locs hG => ?_)
    refine lv_aload_n hx hb dX7_acknowledges_28 rfl (lv_at hl 0 rfl) ?_
    refine lv_iload_n hx hb dX7_acknowledges_29 rfl (lv_at hl 1 rfl) ?_
    refine lv_iload_n hx hb dX7_acknowledges_30 rfl (lv_at hl 2 rfl) ?_
    refine qc_v hG (va_runV (As := [.int x1z, .int x2z]) (rest := []) ⟨hx, hb, hml, hown, hts⟩ (c_X7_quits l g _ (qs_wA SA q9 x1z.toNatClampNeg x2z) a0z x1z x2z h) (cwV 2 hts gX7_acknowledges_X7_quits rfl rfl rfl (by decide +kernel) ⟨(Nat.le_of_ble_eq_true rfl), (Nat.le_of_ble_eq_true rfl)⟩) ⟨qs_Pc.blind _ _ _ _, hG.recv hL1 fK2 (by decide) rfl, hG.pre _⟩ rfl rfl hl.1 rfl (lv_room (Nat.le_of_ble_eq_true rfl)) dX7_acknowledges_31 ⟨Nat.zero_le _, Nat.zero_le _⟩) (fun S15 H locs h hG => ?_)
    refine lv_aload_n hx hb dX7_acknowledges_34 rfl (lv_at hl 0 rfl) ?_
    obtain ⟨⟨hL16, fK17⟩, h⟩ := h
    obtain ⟨q18, eq18, h⟩ := h
    refine qr_get (C := RX7) (T := TX7) (N := 35) (ci := 7) hx hb hts in7 hown hG hL16 fK17 (by decide) rfl 23 (by decide) rfl (hts (.fieldLink RX7 65 "QuayMeshModel" "made" "[I") (List.mem_of_getElem? (i := 3) rfl)) (fun _ h9 => h9) (v := .ref q18) (qs_rf eq18) dX7_acknowledges_35 ?_
    refine lv_iload_n hx hb dX7_acknowledges_38 rfl (lv_at hl 2 rfl) ?_
    obtain ⟨⟨hL19, fK20⟩, h⟩ := h
    obtain ⟨hi21, h⟩ := h
    refine qr_iald hx hb hG hL19 fK20 hi21 rfl dX7_acknowledges_39 ?_
    refine lv_topi (fun v22 ev22 => ?_)
    have h := h v22 ev22
    refine lv_if_le (tgt := 79) hx hb dX7_acknowledges_40 (by decide) (fun c23 => ?_) (fun c23 => ?_)
    · have h := h.1 c23
      exact b79 S15 _ _ ls h hG (lv_sub hl [] rfl)
    · have h := h.2 c23
      refine lv_aload_n hx hb dX7_acknowledges_43 rfl (lv_at hl 0 rfl) ?_
      obtain ⟨q24, eq24, h⟩ := h
      refine qr_get (C := RX7) (T := TX7) (N := 35) (ci := 7) hx hb hts in7 hown hG hL16 fK17 (by decide) rfl 24 (by decide) rfl (hts (.fieldLink RX7 68 "QuayMeshModel" "isLogged" "[Z") (List.mem_of_getElem? (i := 4) rfl)) (fun _ h9 => h9) (v := .ref q24) (qs_rf eq24) dX7_acknowledges_44 ?_
      refine lv_iload_n hx hb dX7_acknowledges_47 rfl (lv_at hl 2 rfl) ?_
      obtain ⟨⟨hL25, fK26⟩, h⟩ := h
      obtain ⟨hi27, h⟩ := h
      refine qr_zald hx hb hG hL25 fK26 hi27 rfl dX7_acknowledges_48 ?_
      refine lv_topi (fun v28 ev28 => ?_)
      have h := h v28 ev28
      refine lv_if_ne (tgt := 79) hx hb dX7_acknowledges_49 (by decide) (fun c29 => ?_) (fun c29 => ?_)
      · have h := h.1 c29
        exact b79 S15 _ _ ls h hG (lv_sub hl [] rfl)
      · have h := h.2 c29
        refine lv_aload_n hx hb dX7_acknowledges_52 rfl (lv_at hl 0 rfl) ?_
        obtain ⟨q30, eq30, h⟩ := h
        refine qr_get (C := RX7) (T := TX7) (N := 35) (ci := 7) hx hb hts in7 hown hG hL16 fK17 (by decide) rfl 24 (by decide) rfl (hts (.fieldLink RX7 68 "QuayMeshModel" "isLogged" "[Z") (List.mem_of_getElem? (i := 4) rfl)) (fun _ h9 => h9) (v := .ref q30) (qs_rf eq30) dX7_acknowledges_53 ?_
        refine lv_iload_n hx hb dX7_acknowledges_56 rfl (lv_at hl 2 rfl) ?_
        refine lv_iconst (v := (1 : Int32)) hx hb dX7_acknowledges_57 (by decide +kernel) ?_
        obtain ⟨⟨hL31, fK32⟩, h⟩ := h
        obtain ⟨hi33, h⟩ := h
        refine qr_zast hx hb hG hL31 fK32 hi33 (Or.inr rfl) dX7_acknowledges_58 (fun H locs hG => ?_)
        refine lv_aload_n hx hb dX7_acknowledges_59 rfl (lv_at hl 0 rfl) ?_
        obtain ⟨q34, eq34, h⟩ := h
        refine qr_get (C := RX7) (T := TX7) (N := 35) (ci := 7) hx hb hts in7 hown hG hL16 fK17 (by decide) rfl 28 (by decide) rfl (hts (.fieldLink RX7 74 "QuayMeshModel" "log" "[I") (List.mem_of_getElem? (i := 5) rfl)) (fun _ h9 => h9) (v := .ref q34) (qs_rf eq34) dX7_acknowledges_60 ?_
        refine lv_aload_n hx hb dX7_acknowledges_63 rfl (lv_at hl 0 rfl) ?_
        refine qr_get (C := RX7) (T := TX7) (N := 35) (ci := 7) hx hb hts in7 hown hG hL16 fK17 (by decide) rfl 27 (by decide) rfl (hts (.fieldLink RX7 143 "QuayMeshModel" "logged" "I") (List.mem_of_getElem? (i := 6) rfl)) (fun _ h9 => h9) (v := .int (qs_I (qs_wA S15 q30 x2z.toNatClampNeg (1 : Int32)) 27 a0z)) rfl dX7_acknowledges_64 ?_
        refine lv_topi (fun v35 ev35 => ?_)
        have h := h v35 ev35
        refine lv_iload_n hx hb dX7_acknowledges_67 rfl (lv_at hl 2 rfl) ?_
        obtain ⟨⟨hL36, fK37⟩, h⟩ := h
        obtain ⟨hi38, h⟩ := h
        refine qr_iast hx hb hG hL36 fK37 hi38 dX7_acknowledges_68 (fun H locs hG => ?_)
        refine lv_aload_n hx hb dX7_acknowledges_69 rfl (lv_at hl 0 rfl) ?_
        refine lv_dup hx hb dX7_acknowledges_70 rfl ?_
        refine qr_get (C := RX7) (T := TX7) (N := 35) (ci := 7) hx hb hts in7 hown hG hL16 fK17 (by decide) rfl 27 (by decide) rfl (hts (.fieldLink RX7 143 "QuayMeshModel" "logged" "I") (List.mem_of_getElem? (i := 6) rfl)) (fun _ h9 => h9) (v := .int (qs_I (qs_wA (qs_wA S15 q30 x2z.toNatClampNeg (1 : Int32)) q34 v35.toNatClampNeg x2z) 27 a0z)) rfl dX7_acknowledges_71 ?_
        refine lv_topi (fun v39 ev39 => ?_)
        have h := h v39 ev39
        refine lv_iconst (v := (1 : Int32)) hx hb dX7_acknowledges_74 (by decide +kernel) ?_
        refine lv_iadd hx hb dX7_acknowledges_75 ?_
        refine lv_topi (fun v40 ev40 => ?_)
        have h := h v40 ev40
        refine qr_putI (C := RX7) (T := TX7) (N := 35) (ci := 7) hx hb hts in7 tyX7 tyX7_ok nmX7 hown hG hL16 fK17 (by decide) rfl 27 (by decide) rfl (hts (.fieldLink RX7 143 "QuayMeshModel" "logged" "I") (List.mem_of_getElem? (i := 6) rfl)) (fun _ h9 => h9) rfl (x := v40) (tyX7_ok 27 (by decide)) rfl rfl dX7_acknowledges_76 (fun H locs hG => ?_)
        exact b79 (qs_wI (qs_wA (qs_wA S15 q30 x2z.toNatClampNeg (1 : Int32)) q34 v35.toNatClampNeg x2z) 27 a0z v40) _ _ ls h hG (lv_sub hl [] rfl)
  · have h := h.2 c8
    refine lv_aload_n hx hb dX7_acknowledges_9 rfl (lv_at hl 0 rfl) ?_
    obtain ⟨q41, eq41, h⟩ := h
    refine qr_get (C := RX7) (T := TX7) (N := 35) (ci := 7) hx hb hts in7 hown hG hL1 fK2 (by decide) rfl 32 (by decide) rfl (hts (.fieldLink RX7 86 "QuayMeshModel" "ackLossDue" "[I") (List.mem_of_getElem? (i := 1) rfl)) (fun _ h9 => h9) (v := .ref q41) (qs_rf eq41) dX7_acknowledges_10 ?_
    refine lv_iload_n hx hb dX7_acknowledges_13 rfl (lv_at hl 1 rfl) ?_
    refine lv_dup2_11 hx hb dX7_acknowledges_14 rfl rfl ?_
    obtain ⟨⟨hL42, fK43⟩, h⟩ := h
    obtain ⟨hi44, h⟩ := h
    refine qr_iald hx hb hG hL42 fK43 hi44 rfl dX7_acknowledges_15 ?_
    refine lv_topi (fun v45 ev45 => ?_)
    have h := h v45 ev45
    refine lv_iconst (v := (1 : Int32)) hx hb dX7_acknowledges_16 (by decide +kernel) ?_
    refine lv_isub hx hb dX7_acknowledges_17 ?_
    refine lv_topi (fun v46 ev46 => ?_)
    have h := h v46 ev46
    obtain ⟨hi47, h⟩ := h
    refine qr_iast hx hb hG hL42 fK43 hi47 dX7_acknowledges_18 (fun H locs hG => ?_)
    refine lv_iconst (v := (5 : Int32)) hx hb dX7_acknowledges_19 (by decide +kernel) ?_
    exact qe_i hx hb hr hlk hG h (Nat.le_refl _) (Nat.le_refl _) dX7_acknowledges_20
def wp_X7_makes (t0 m9 : Nat) (post : qs_S → Prop) (SA : qs_S) (a0z : Nat) (x1z : Int32) : Prop := (a0z ∈ qs_L SA ∧ qs_K SA a0z = 7) ∧ (∀ v3 : Int32, v3 = qs_I SA 25 a0z → ∀ v4 : Int32, v4 = v3 + (1 : Int32) → ∃ q5 : Nat, qs_R (qs_wI SA 25 a0z v4) 23 a0z = some q5 ∧ (∀ v6 : Int32, v6 = qs_I (qs_wI SA 25 a0z v4) 25 a0z → (q5 ∈ qs_L (qs_wI SA 25 a0z v4) ∧ qs_K (qs_wI SA 25 a0z v4) q5 = 8) ∧ (vp_in x1z (qs_Z (qs_wI SA 25 a0z v4) q5) ∧ (post (qs_wA (qs_wI SA 25 a0z v4) q5 x1z.toNatClampNeg v6)))))
set_option maxHeartbeats 4000000 in
set_option maxRecDepth 100000 in
theorem c_X7_makes (l : Launch) (g : qs_G) (sz : Nat) (SA : qs_S) (a0z : Nat) (x1z : Int32) {post : qs_S → Prop} (h : wp_X7_makes g.2.2.2.2.2.2.1 g.2.2.2.2.2.2.2 post SA a0z x1z) : Met l yX7_makes wsX7_makes ({ frames := 0, cells := 0, slots := 0, locals := 0 } : Room) (qs_Pc g sz SA [.ref a0z, .int x1z]) (qs_Qv g (qs_F g SA sz) post) 0 0 (qs_F g SA sz) := by
  refine Met.ofW (cc := cX7_makes) (maxL := 2) (ret := none) (by decide +kernel) rfl ?_
  intro p e s m args below meth c s₁ B hml hv
  obtain ⟨rfl, hsz, hG⟩ := qs_Gd.start hv
  subst hsz
  have hx := B.exec
  have hb := B.bytes
  have hr := B.returns
  have hts := atoms_spec (ws := wsX7_makes) B.pre
  have hown : s.vm.findClass RX7 = some m.cls := findClass_of_methodNamed B.named
  have hlk := B.notSynchronized
  have in7 : ∀ w ∈ u_ws RX7 TX7 35, w ∈ wsX7_makes := fun w h => List.mem_cons_of_mem _ (List.mem_append_right _ (h))
  have hl := lv_entry ([.ref a0z, .int x1z]) (n := 2) (Nat.le_of_ble_eq_true rfl)
  rw [lg_entry_eq]
  generalize (lg_sl ([.ref a0z, .int x1z]) ++ List.replicate (2 - (lg_sl ([.ref a0z, .int x1z])).length) Slot.unset).toArray = ls at hl ⊢
  have hl : lv_has ls 2 [(0, .ref a0z), (1, .int x1z)] := hl
  unfold wp_X7_makes at h
  refine lv_aload_n hx hb dX7_makes_0 rfl (lv_at hl 0 rfl) ?_
  refine lv_dup hx hb dX7_makes_1 rfl ?_
  obtain ⟨⟨hL1, fK2⟩, h⟩ := h
  refine qr_get (C := RX7) (T := TX7) (N := 35) (ci := 7) hx hb hts in7 hown hG hL1 fK2 (by decide) rfl 25 (by decide) rfl (hts (.fieldLink RX7 146 "QuayMeshModel" "moves" "I") (List.mem_of_getElem? (i := 1) rfl)) (fun _ h9 => h9) (v := .int (qs_I SA 25 a0z)) rfl dX7_makes_2 ?_
  refine lv_topi (fun v3 ev3 => ?_)
  have h := h v3 ev3
  refine lv_iconst (v := (1 : Int32)) hx hb dX7_makes_5 (by decide +kernel) ?_
  refine lv_iadd hx hb dX7_makes_6 ?_
  refine lv_topi (fun v4 ev4 => ?_)
  have h := h v4 ev4
  refine qr_putI (C := RX7) (T := TX7) (N := 35) (ci := 7) hx hb hts in7 tyX7 tyX7_ok nmX7 hown hG hL1 fK2 (by decide) rfl 25 (by decide) rfl (hts (.fieldLink RX7 146 "QuayMeshModel" "moves" "I") (List.mem_of_getElem? (i := 1) rfl)) (fun _ h9 => h9) rfl (x := v4) (tyX7_ok 25 (by decide)) rfl rfl dX7_makes_7 (fun H locs hG => ?_)
  refine lv_aload_n hx hb dX7_makes_10 rfl (lv_at hl 0 rfl) ?_
  obtain ⟨q5, eq5, h⟩ := h
  refine qr_get (C := RX7) (T := TX7) (N := 35) (ci := 7) hx hb hts in7 hown hG hL1 fK2 (by decide) rfl 23 (by decide) rfl (hts (.fieldLink RX7 65 "QuayMeshModel" "made" "[I") (List.mem_of_getElem? (i := 2) rfl)) (fun _ h9 => h9) (v := .ref q5) (qs_rf eq5) dX7_makes_11 ?_
  refine lv_iload_n hx hb dX7_makes_14 rfl (lv_at hl 1 rfl) ?_
  refine lv_aload_n hx hb dX7_makes_15 rfl (lv_at hl 0 rfl) ?_
  refine qr_get (C := RX7) (T := TX7) (N := 35) (ci := 7) hx hb hts in7 hown hG hL1 fK2 (by decide) rfl 25 (by decide) rfl (hts (.fieldLink RX7 146 "QuayMeshModel" "moves" "I") (List.mem_of_getElem? (i := 1) rfl)) (fun _ h9 => h9) (v := .int (qs_I (qs_wI SA 25 a0z v4) 25 a0z)) rfl dX7_makes_16 ?_
  refine lv_topi (fun v6 ev6 => ?_)
  have h := h v6 ev6
  obtain ⟨⟨hL7, fK8⟩, h⟩ := h
  obtain ⟨hi9, h⟩ := h
  refine qr_iast hx hb hG hL7 fK8 hi9 dX7_makes_19 (fun H locs hG => ?_)
  exact qe_v hx hb hr hlk hG h (Nat.le_refl _) (Nat.le_refl _) dX7_makes_20
def wp_X7_canGo_b38 (t0 m9 : Nat) (post : Int32 → qs_S → Prop) (S : qs_S) (s0 : Int32) : Prop := (s0 = 0 ∨ s0 = 1) ∧ post s0 S
def wp_X7_canGo_b33 (t0 m9 : Nat) (post : Int32 → qs_S → Prop) (S : qs_S) : Prop := wp_X7_canGo_b38 t0 m9 post S (1 : Int32)
def wp_X7_canGo_b37 (t0 m9 : Nat) (post : Int32 → qs_S → Prop) (S : qs_S) : Prop := wp_X7_canGo_b38 t0 m9 post S (0 : Int32)
def wp_X7_canGo_b16 (t0 m9 : Nat) (post : Int32 → qs_S → Prop) (S : qs_S) (a0 : Nat) (x1 : Int32) (x2 : Int32) : Prop := (x1 = (3 : Int32) → (wp_X7_canGo_b33 t0 m9 post S)) ∧ (¬ x1 = (3 : Int32) → ((a0 ∈ qs_L S ∧ qs_K S a0 = 7) ∧ (∃ q5 : Nat, qs_R S 16 a0 = some q5 ∧ (∀ v6 : Int32, v6 = x1 + (1 : Int32) → (q5 ∈ qs_L S ∧ qs_K S q5 = 8) ∧ (vp_in v6 (qs_Z S q5) ∧ (∀ v10 : Int32, v10 = qs_A S q5 v6.toNatClampNeg → (v10 ≤ x2 → (wp_X7_canGo_b37 t0 m9 post S)) ∧ (¬ v10 ≤ x2 → (wp_X7_canGo_b33 t0 m9 post S))))))))
def wp_X7_canGo (t0 m9 : Nat) (post : Int32 → qs_S → Prop) (SA : qs_S) (a0z : Nat) (x1z : Int32) (x2z : Int32) : Prop := (x1z = 0 → (wp_X7_canGo_b16 t0 m9 post SA a0z x1z x2z)) ∧ (¬ x1z = 0 → ((a0z ∈ qs_L SA ∧ qs_K SA a0z = 7) ∧ (∃ q15 : Nat, qs_R SA 16 a0z = some q15 ∧ (∀ v16 : Int32, v16 = x1z - (1 : Int32) → (q15 ∈ qs_L SA ∧ qs_K SA q15 = 8) ∧ (vp_in v16 (qs_Z SA q15) ∧ (∀ v20 : Int32, v20 = qs_A SA q15 v16.toNatClampNeg → (x2z ≤ v20 → (wp_X7_canGo_b37 t0 m9 post SA)) ∧ (¬ x2z ≤ v20 → (wp_X7_canGo_b16 t0 m9 post SA a0z x1z x2z))))))))
set_option maxHeartbeats 4000000 in
set_option maxRecDepth 100000 in
theorem c_X7_canGo (l : Launch) (g : qs_G) (sz : Nat) (SA : qs_S) (a0z : Nat) (x1z : Int32) (x2z : Int32) {post : Int32 → qs_S → Prop} (h : wp_X7_canGo g.2.2.2.2.2.2.1 g.2.2.2.2.2.2.2 post SA a0z x1z x2z) : Met l yX7_canGo wsX7_canGo ({ frames := 0, cells := 0, slots := 0, locals := 0 } : Room) (qs_Pc g sz SA [.ref a0z, .int x1z, .int x2z]) (qs_Qi g (qs_F g SA sz) post) 0 0 (qs_F g SA sz) := by
  refine Met.ofW (cc := cX7_canGo) (maxL := 3) (ret := (some .boolean)) (by decide +kernel) rfl ?_
  intro p e s m args below meth c s₁ B hml hv
  obtain ⟨rfl, hsz, hG⟩ := qs_Gd.start hv
  subst hsz
  have hx := B.exec
  have hb := B.bytes
  have hr := B.returns
  have hts := atoms_spec (ws := wsX7_canGo) B.pre
  have hown : s.vm.findClass RX7 = some m.cls := findClass_of_methodNamed B.named
  have hlk := B.notSynchronized
  have in7 : ∀ w ∈ u_ws RX7 TX7 35, w ∈ wsX7_canGo := fun w h => List.mem_cons_of_mem _ (List.mem_append_right _ (h))
  have b38 : ∀ (S : qs_S) (s0 : Int32) (H : Heap) (locs : List Loc) (ls : Array Slot), wp_X7_canGo_b38 g.2.2.2.2.2.2.1 g.2.2.2.2.2.2.2 post S s0 → qs_Gd g (qs_F g SA s.heap.size) s S H locs → lv_has ls 3 [] → W p l e (headSpec wsX7_canGo ({ frames := 0, cells := 0, slots := 0, locals := 0 } : Room)).room s m (([.ref a0z, .int x1z, .int x2z] : List Value)).toArray below meth c H locs 0 0 (MQ below (qs_Qi g (qs_F g SA s.heap.size) post) (([.ref a0z, .int x1z, .int x2z] : List Value)).toArray s 0 0 (qs_F g SA s.heap.size)) (F0 m 38 ls [.int s0]) := by
    intro S s0 H locs ls h hG hl
    unfold wp_X7_canGo_b38 at h
    obtain ⟨z1, h⟩ := h
    exact qe_z hx hb hr hlk z1 hG h (Nat.le_refl _) (Nat.le_refl _) dX7_canGo_38
  have b33 : ∀ (S : qs_S) (H : Heap) (locs : List Loc) (ls : Array Slot), wp_X7_canGo_b33 g.2.2.2.2.2.2.1 g.2.2.2.2.2.2.2 post S → qs_Gd g (qs_F g SA s.heap.size) s S H locs → lv_has ls 3 [] → W p l e (headSpec wsX7_canGo ({ frames := 0, cells := 0, slots := 0, locals := 0 } : Room)).room s m (([.ref a0z, .int x1z, .int x2z] : List Value)).toArray below meth c H locs 0 0 (MQ below (qs_Qi g (qs_F g SA s.heap.size) post) (([.ref a0z, .int x1z, .int x2z] : List Value)).toArray s 0 0 (qs_F g SA s.heap.size)) (F0 m 33 ls []) := by
    intro S H locs ls h hG hl
    unfold wp_X7_canGo_b33 at h
    refine lv_iconst (v := (1 : Int32)) hx hb dX7_canGo_33 (by decide +kernel) ?_
    refine lv_goto (tgt := 38) hx hb dX7_canGo_34 (by decide) ?_
    exact b38 S (1 : Int32) _ _ ls h hG (lv_sub hl [] rfl)
  have b37 : ∀ (S : qs_S) (H : Heap) (locs : List Loc) (ls : Array Slot), wp_X7_canGo_b37 g.2.2.2.2.2.2.1 g.2.2.2.2.2.2.2 post S → qs_Gd g (qs_F g SA s.heap.size) s S H locs → lv_has ls 3 [] → W p l e (headSpec wsX7_canGo ({ frames := 0, cells := 0, slots := 0, locals := 0 } : Room)).room s m (([.ref a0z, .int x1z, .int x2z] : List Value)).toArray below meth c H locs 0 0 (MQ below (qs_Qi g (qs_F g SA s.heap.size) post) (([.ref a0z, .int x1z, .int x2z] : List Value)).toArray s 0 0 (qs_F g SA s.heap.size)) (F0 m 37 ls []) := by
    intro S H locs ls h hG hl
    unfold wp_X7_canGo_b37 at h
    refine lv_iconst (v := (0 : Int32)) hx hb dX7_canGo_37 (by decide +kernel) ?_
    exact b38 S (0 : Int32) _ _ ls h hG (lv_sub hl [] rfl)
  have b16 : ∀ (S : qs_S) (a0 : Nat) (x1 : Int32) (x2 : Int32) (H : Heap) (locs : List Loc) (ls : Array Slot), wp_X7_canGo_b16 g.2.2.2.2.2.2.1 g.2.2.2.2.2.2.2 post S a0 x1 x2 → qs_Gd g (qs_F g SA s.heap.size) s S H locs → lv_has ls 3 [(0, .ref a0), (1, .int x1), (2, .int x2)] → W p l e (headSpec wsX7_canGo ({ frames := 0, cells := 0, slots := 0, locals := 0 } : Room)).room s m (([.ref a0z, .int x1z, .int x2z] : List Value)).toArray below meth c H locs 0 0 (MQ below (qs_Qi g (qs_F g SA s.heap.size) post) (([.ref a0z, .int x1z, .int x2z] : List Value)).toArray s 0 0 (qs_F g SA s.heap.size)) (F0 m 16 ls []) := by
    intro S a0 x1 x2 H locs ls h hG hl
    unfold wp_X7_canGo_b16 at h
    refine lv_iload_n hx hb dX7_canGo_16 rfl (lv_at hl 1 rfl) ?_
    refine lv_iconst (v := (3 : Int32)) hx hb dX7_canGo_17 (by decide +kernel) ?_
    refine lv_icmp_eq (tgt := 33) hx hb dX7_canGo_18 (by decide) (fun c2 => ?_) (fun c2 => ?_)
    · have h := h.1 c2
      exact b33 S _ _ ls h hG (lv_sub hl [] rfl)
    · have h := h.2 c2
      refine lv_aload_n hx hb dX7_canGo_21 rfl (lv_at hl 0 rfl) ?_
      obtain ⟨⟨hL3, fK4⟩, h⟩ := h
      obtain ⟨q5, eq5, h⟩ := h
      refine qr_get (C := RX7) (T := TX7) (N := 35) (ci := 7) hx hb hts in7 hown hG hL3 fK4 (by decide) rfl 16 (by decide) rfl (hts (.fieldLink RX7 47 "QuayMeshModel" "stands" "[I") (List.mem_of_getElem? (i := 1) rfl)) (fun _ h9 => h9) (v := .ref q5) (qs_rf eq5) dX7_canGo_22 ?_
      refine lv_iload_n hx hb dX7_canGo_25 rfl (lv_at hl 1 rfl) ?_
      refine lv_iconst (v := (1 : Int32)) hx hb dX7_canGo_26 (by decide +kernel) ?_
      refine lv_iadd hx hb dX7_canGo_27 ?_
      refine lv_topi (fun v6 ev6 => ?_)
      have h := h v6 ev6
      obtain ⟨⟨hL7, fK8⟩, h⟩ := h
      obtain ⟨hi9, h⟩ := h
      refine qr_iald hx hb hG hL7 fK8 hi9 rfl dX7_canGo_28 ?_
      refine lv_topi (fun v10 ev10 => ?_)
      have h := h v10 ev10
      refine lv_iload_n hx hb dX7_canGo_29 rfl (lv_at hl 2 rfl) ?_
      refine lv_icmp_le (tgt := 37) hx hb dX7_canGo_30 (by decide) (fun c11 => ?_) (fun c11 => ?_)
      · have h := h.1 c11
        exact b37 S _ _ ls h hG (lv_sub hl [] rfl)
      · have h := h.2 c11
        exact b33 S _ _ ls h hG (lv_sub hl [] rfl)
  have hl := lv_entry ([.ref a0z, .int x1z, .int x2z]) (n := 3) (Nat.le_of_ble_eq_true rfl)
  rw [lg_entry_eq]
  generalize (lg_sl ([.ref a0z, .int x1z, .int x2z]) ++ List.replicate (3 - (lg_sl ([.ref a0z, .int x1z, .int x2z])).length) Slot.unset).toArray = ls at hl ⊢
  have hl : lv_has ls 3 [(0, .ref a0z), (1, .int x1z), (2, .int x2z)] := hl
  unfold wp_X7_canGo at h
  refine lv_iload_n hx hb dX7_canGo_0 rfl (lv_at hl 1 rfl) ?_
  refine lv_if_eq (tgt := 16) hx hb dX7_canGo_1 (by decide) (fun c12 => ?_) (fun c12 => ?_)
  · have h := h.1 c12
    exact b16 SA a0z x1z x2z _ _ ls h hG (lv_sub hl [0, 1, 2] rfl)
  · have h := h.2 c12
    refine lv_aload_n hx hb dX7_canGo_4 rfl (lv_at hl 0 rfl) ?_
    obtain ⟨⟨hL13, fK14⟩, h⟩ := h
    obtain ⟨q15, eq15, h⟩ := h
    refine qr_get (C := RX7) (T := TX7) (N := 35) (ci := 7) hx hb hts in7 hown hG hL13 fK14 (by decide) rfl 16 (by decide) rfl (hts (.fieldLink RX7 47 "QuayMeshModel" "stands" "[I") (List.mem_of_getElem? (i := 1) rfl)) (fun _ h9 => h9) (v := .ref q15) (qs_rf eq15) dX7_canGo_5 ?_
    refine lv_iload_n hx hb dX7_canGo_8 rfl (lv_at hl 1 rfl) ?_
    refine lv_iconst (v := (1 : Int32)) hx hb dX7_canGo_9 (by decide +kernel) ?_
    refine lv_isub hx hb dX7_canGo_10 ?_
    refine lv_topi (fun v16 ev16 => ?_)
    have h := h v16 ev16
    obtain ⟨⟨hL17, fK18⟩, h⟩ := h
    obtain ⟨hi19, h⟩ := h
    refine qr_iald hx hb hG hL17 fK18 hi19 rfl dX7_canGo_11 ?_
    refine lv_topi (fun v20 ev20 => ?_)
    have h := h v20 ev20
    refine lv_iload_n hx hb dX7_canGo_12 rfl (lv_at hl 2 rfl) ?_
    refine lv_icmp_ge (tgt := 37) hx hb dX7_canGo_13 (by decide) (fun c21 => ?_) (fun c21 => ?_)
    · have h := h.1 c21
      exact b37 SA _ _ ls h hG (lv_sub hl [] rfl)
    · have h := h.2 c21
      exact b16 SA a0z x1z x2z _ _ ls h hG (lv_sub hl [0, 1, 2] rfl)
def wp_X7_isTaken_b41 (t0 m9 : Nat) (post : Int32 → qs_S → Prop) (K4 : qs_S → Nat → Int32 → Int32 → Int32 → Prop) (S : qs_S) (a0 : Nat) (x1 : Int32) (x3 : Int32) (s0 : Int32) : Prop := ∀ v1 : Int32, v1 = x3 + 1 → K4 S a0 x1 s0 v1
def wp_X7_isTaken_b36 (t0 m9 : Nat) (post : Int32 → qs_S → Prop) (K4 : qs_S → Nat → Int32 → Int32 → Int32 → Prop) (S : qs_S) (a0 : Nat) (x1 : Int32) (x3 : Int32) : Prop := wp_X7_isTaken_b41 t0 m9 post K4 S a0 x1 x3 (1 : Int32)
def wp_X7_isTaken_b40 (t0 m9 : Nat) (post : Int32 → qs_S → Prop) (K4 : qs_S → Nat → Int32 → Int32 → Int32 → Prop) (S : qs_S) (a0 : Nat) (x1 : Int32) (x3 : Int32) : Prop := wp_X7_isTaken_b41 t0 m9 post K4 S a0 x1 x3 (0 : Int32)
def wp_X7_isTaken_c4 (t0 m9 : Nat) (post : Int32 → qs_S → Prop) (K4 : qs_S → Nat → Int32 → Int32 → Int32 → Prop) (S : qs_S) (a0 : Nat) (x1 : Int32) (x2 : Int32) (x3 : Int32) : Prop := (a0 ∈ qs_L S ∧ qs_K S a0 = 7) ∧ (∀ v4 : Int32, v4 = qs_I S 6 a0 → (v4 ≤ x3 → ((x2 = 0 ∨ x2 = 1) ∧ post x2 S)) ∧ (¬ v4 ≤ x3 → ((¬ x2 = 0 → (wp_X7_isTaken_b36 t0 m9 post K4 S a0 x1 x3)) ∧ (x2 = 0 → (∃ q8 : Nat, qs_R S 9 a0 = some q8 ∧ ((q8 ∈ qs_L S ∧ qs_K S q8 = 8) ∧ (vp_in x3 (qs_Z S q8) ∧ (∀ v12 : Int32, v12 = qs_A S q8 x3.toNatClampNeg → (¬ v12 = (1 : Int32) → (wp_X7_isTaken_b40 t0 m9 post K4 S a0 x1 x3)) ∧ (v12 = (1 : Int32) → (∃ q14 : Nat, qs_R S 8 a0 = some q14 ∧ ((q14 ∈ qs_L S ∧ qs_K S q14 = 8) ∧ (vp_in x3 (qs_Z S q14) ∧ (∀ v18 : Int32, v18 = qs_A S q14 x3.toNatClampNeg → (¬ v18 = x1 → (wp_X7_isTaken_b40 t0 m9 post K4 S a0 x1 x3)) ∧ (v18 = x1 → (wp_X7_isTaken_b36 t0 m9 post K4 S a0 x1 x3)))))))))))))))
def wp_X7_isTaken_b4 (t0 m9 : Nat) (post : Int32 → qs_S → Prop) : Nat → qs_S → Nat → Int32 → Int32 → Int32 → Prop
  | 0 => fun _ _ _ _ _ => False
  | n9 + 1 => wp_X7_isTaken_c4 t0 m9 post (wp_X7_isTaken_b4 t0 m9 post n9)
def wp_X7_isTaken (t0 m9 : Nat) (post : Int32 → qs_S → Prop) (SA : qs_S) (a0z : Nat) (x1z : Int32) : Prop := ∃ n20 : Nat, wp_X7_isTaken_b4 t0 m9 post n20 SA a0z x1z (0 : Int32) (0 : Int32)
set_option maxHeartbeats 4000000 in
set_option maxRecDepth 100000 in
theorem c_X7_isTaken (l : Launch) (g : qs_G) (sz : Nat) (SA : qs_S) (a0z : Nat) (x1z : Int32) {post : Int32 → qs_S → Prop} (h : wp_X7_isTaken g.2.2.2.2.2.2.1 g.2.2.2.2.2.2.2 post SA a0z x1z) : Met l yX7_isTaken wsX7_isTaken ({ frames := 0, cells := 0, slots := 0, locals := 0 } : Room) (qs_Pc g sz SA [.ref a0z, .int x1z]) (qs_Qi g (qs_F g SA sz) post) 0 0 (qs_F g SA sz) := by
  refine Met.ofW (cc := cX7_isTaken) (maxL := 4) (ret := (some .boolean)) (by decide +kernel) rfl ?_
  intro p e s m args below meth c s₁ B hml hv
  obtain ⟨rfl, hsz, hG⟩ := qs_Gd.start hv
  subst hsz
  have hx := B.exec
  have hb := B.bytes
  have hr := B.returns
  have hts := atoms_spec (ws := wsX7_isTaken) B.pre
  have hown : s.vm.findClass RX7 = some m.cls := findClass_of_methodNamed B.named
  have hlk := B.notSynchronized
  have in7 : ∀ w ∈ u_ws RX7 TX7 35, w ∈ wsX7_isTaken := fun w h => List.mem_cons_of_mem _ (List.mem_append_right _ (h))
  have b41 : ∀ (K4 : qs_S → Nat → Int32 → Int32 → Int32 → Prop), (∀ (S : qs_S) (a0 : Nat) (x1 : Int32) (x2 : Int32) (x3 : Int32) (H : Heap) (locs : List Loc) (ls : Array Slot), K4 S a0 x1 x2 x3 → qs_Gd g (qs_F g SA s.heap.size) s S H locs → lv_has ls 4 [(0, .ref a0), (1, .int x1), (2, .int x2), (3, .int x3)] → W p l e (headSpec wsX7_isTaken ({ frames := 0, cells := 0, slots := 0, locals := 0 } : Room)).room s m (([.ref a0z, .int x1z] : List Value)).toArray below meth c H locs 0 0 (MQ below (qs_Qi g (qs_F g SA s.heap.size) post) (([.ref a0z, .int x1z] : List Value)).toArray s 0 0 (qs_F g SA s.heap.size)) (F0 m 4 ls [])) → ∀ (S : qs_S) (a0 : Nat) (x1 : Int32) (x3 : Int32) (s0 : Int32) (H : Heap) (locs : List Loc) (ls : Array Slot), wp_X7_isTaken_b41 g.2.2.2.2.2.2.1 g.2.2.2.2.2.2.2 post K4 S a0 x1 x3 s0 → qs_Gd g (qs_F g SA s.heap.size) s S H locs → lv_has ls 4 [(0, .ref a0), (1, .int x1), (3, .int x3)] → W p l e (headSpec wsX7_isTaken ({ frames := 0, cells := 0, slots := 0, locals := 0 } : Room)).room s m (([.ref a0z, .int x1z] : List Value)).toArray below meth c H locs 0 0 (MQ below (qs_Qi g (qs_F g SA s.heap.size) post) (([.ref a0z, .int x1z] : List Value)).toArray s 0 0 (qs_F g SA s.heap.size)) (F0 m 41 ls [.int s0]) := by
    intro K4 hK4 S a0 x1 x3 s0 H locs ls h hG hl
    unfold wp_X7_isTaken_b41 at h
    refine lv_istore_n (lv' := [(2, .int s0), (0, .ref a0), (1, .int x1), (3, .int x3)]) hx hb dX7_isTaken_41 rfl hl (by decide) rfl (fun ls hl => ?_)
    obtain ⟨v1, ev1⟩ : ∃ y : Int32, y = x3 + 1 := ⟨_, rfl⟩
    have h := h v1 ev1
    refine lv_iinc (v := v1) (lv' := [(3, .int v1), (2, .int s0), (0, .ref a0), (1, .int x1)]) hx hb dX7_isTaken_42 hl (k := 3) rfl (by rw [ev1]; rfl) (by decide) rfl (fun ls hl => ?_)
    refine lv_goto (tgt := 4) hx hb dX7_isTaken_45 (by decide) ?_
    exact hK4 S a0 x1 s0 v1 _ _ ls h hG (lv_sub hl [2, 3, 1, 0] rfl)
  have b36 : ∀ (K4 : qs_S → Nat → Int32 → Int32 → Int32 → Prop), (∀ (S : qs_S) (a0 : Nat) (x1 : Int32) (x2 : Int32) (x3 : Int32) (H : Heap) (locs : List Loc) (ls : Array Slot), K4 S a0 x1 x2 x3 → qs_Gd g (qs_F g SA s.heap.size) s S H locs → lv_has ls 4 [(0, .ref a0), (1, .int x1), (2, .int x2), (3, .int x3)] → W p l e (headSpec wsX7_isTaken ({ frames := 0, cells := 0, slots := 0, locals := 0 } : Room)).room s m (([.ref a0z, .int x1z] : List Value)).toArray below meth c H locs 0 0 (MQ below (qs_Qi g (qs_F g SA s.heap.size) post) (([.ref a0z, .int x1z] : List Value)).toArray s 0 0 (qs_F g SA s.heap.size)) (F0 m 4 ls [])) → ∀ (S : qs_S) (a0 : Nat) (x1 : Int32) (x3 : Int32) (H : Heap) (locs : List Loc) (ls : Array Slot), wp_X7_isTaken_b36 g.2.2.2.2.2.2.1 g.2.2.2.2.2.2.2 post K4 S a0 x1 x3 → qs_Gd g (qs_F g SA s.heap.size) s S H locs → lv_has ls 4 [(0, .ref a0), (1, .int x1), (3, .int x3)] → W p l e (headSpec wsX7_isTaken ({ frames := 0, cells := 0, slots := 0, locals := 0 } : Room)).room s m (([.ref a0z, .int x1z] : List Value)).toArray below meth c H locs 0 0 (MQ below (qs_Qi g (qs_F g SA s.heap.size) post) (([.ref a0z, .int x1z] : List Value)).toArray s 0 0 (qs_F g SA s.heap.size)) (F0 m 36 ls []) := by
    intro K4 hK4 S a0 x1 x3 H locs ls h hG hl
    unfold wp_X7_isTaken_b36 at h
    refine lv_iconst (v := (1 : Int32)) hx hb dX7_isTaken_36 (by decide +kernel) ?_
    refine lv_goto (tgt := 41) hx hb dX7_isTaken_37 (by decide) ?_
    exact b41 K4 hK4 S a0 x1 x3 (1 : Int32) _ _ ls h hG (lv_sub hl [0, 1, 2] rfl)
  have b40 : ∀ (K4 : qs_S → Nat → Int32 → Int32 → Int32 → Prop), (∀ (S : qs_S) (a0 : Nat) (x1 : Int32) (x2 : Int32) (x3 : Int32) (H : Heap) (locs : List Loc) (ls : Array Slot), K4 S a0 x1 x2 x3 → qs_Gd g (qs_F g SA s.heap.size) s S H locs → lv_has ls 4 [(0, .ref a0), (1, .int x1), (2, .int x2), (3, .int x3)] → W p l e (headSpec wsX7_isTaken ({ frames := 0, cells := 0, slots := 0, locals := 0 } : Room)).room s m (([.ref a0z, .int x1z] : List Value)).toArray below meth c H locs 0 0 (MQ below (qs_Qi g (qs_F g SA s.heap.size) post) (([.ref a0z, .int x1z] : List Value)).toArray s 0 0 (qs_F g SA s.heap.size)) (F0 m 4 ls [])) → ∀ (S : qs_S) (a0 : Nat) (x1 : Int32) (x3 : Int32) (H : Heap) (locs : List Loc) (ls : Array Slot), wp_X7_isTaken_b40 g.2.2.2.2.2.2.1 g.2.2.2.2.2.2.2 post K4 S a0 x1 x3 → qs_Gd g (qs_F g SA s.heap.size) s S H locs → lv_has ls 4 [(0, .ref a0), (1, .int x1), (3, .int x3)] → W p l e (headSpec wsX7_isTaken ({ frames := 0, cells := 0, slots := 0, locals := 0 } : Room)).room s m (([.ref a0z, .int x1z] : List Value)).toArray below meth c H locs 0 0 (MQ below (qs_Qi g (qs_F g SA s.heap.size) post) (([.ref a0z, .int x1z] : List Value)).toArray s 0 0 (qs_F g SA s.heap.size)) (F0 m 40 ls []) := by
    intro K4 hK4 S a0 x1 x3 H locs ls h hG hl
    unfold wp_X7_isTaken_b40 at h
    refine lv_iconst (v := (0 : Int32)) hx hb dX7_isTaken_40 (by decide +kernel) ?_
    exact b41 K4 hK4 S a0 x1 x3 (0 : Int32) _ _ ls h hG (lv_sub hl [0, 1, 2] rfl)
  have c4 : ∀ (K4 : qs_S → Nat → Int32 → Int32 → Int32 → Prop), (∀ (S : qs_S) (a0 : Nat) (x1 : Int32) (x2 : Int32) (x3 : Int32) (H : Heap) (locs : List Loc) (ls : Array Slot), K4 S a0 x1 x2 x3 → qs_Gd g (qs_F g SA s.heap.size) s S H locs → lv_has ls 4 [(0, .ref a0), (1, .int x1), (2, .int x2), (3, .int x3)] → W p l e (headSpec wsX7_isTaken ({ frames := 0, cells := 0, slots := 0, locals := 0 } : Room)).room s m (([.ref a0z, .int x1z] : List Value)).toArray below meth c H locs 0 0 (MQ below (qs_Qi g (qs_F g SA s.heap.size) post) (([.ref a0z, .int x1z] : List Value)).toArray s 0 0 (qs_F g SA s.heap.size)) (F0 m 4 ls [])) → ∀ (S : qs_S) (a0 : Nat) (x1 : Int32) (x2 : Int32) (x3 : Int32) (H : Heap) (locs : List Loc) (ls : Array Slot), wp_X7_isTaken_c4 g.2.2.2.2.2.2.1 g.2.2.2.2.2.2.2 post K4 S a0 x1 x2 x3 → qs_Gd g (qs_F g SA s.heap.size) s S H locs → lv_has ls 4 [(0, .ref a0), (1, .int x1), (2, .int x2), (3, .int x3)] → W p l e (headSpec wsX7_isTaken ({ frames := 0, cells := 0, slots := 0, locals := 0 } : Room)).room s m (([.ref a0z, .int x1z] : List Value)).toArray below meth c H locs 0 0 (MQ below (qs_Qi g (qs_F g SA s.heap.size) post) (([.ref a0z, .int x1z] : List Value)).toArray s 0 0 (qs_F g SA s.heap.size)) (F0 m 4 ls []) := by
    intro K4 hK4 S a0 x1 x2 x3 H locs ls h hG hl
    unfold wp_X7_isTaken_c4 at h
    refine lv_iload_n hx hb dX7_isTaken_4 rfl (lv_at hl 3 rfl) ?_
    refine lv_aload_n hx hb dX7_isTaken_5 rfl (lv_at hl 0 rfl) ?_
    obtain ⟨⟨hL2, fK3⟩, h⟩ := h
    refine qr_get (C := RX7) (T := TX7) (N := 35) (ci := 7) hx hb hts in7 hown hG hL2 fK3 (by decide) rfl 6 (by decide) rfl (hts (.fieldLink RX7 106 "QuayMeshModel" "boxes" "I") (List.mem_of_getElem? (i := 1) rfl)) (fun _ h9 => h9) (v := .int (qs_I S 6 a0)) rfl dX7_isTaken_6 ?_
    refine lv_topi (fun v4 ev4 => ?_)
    have h := h v4 ev4
    refine lv_icmp_ge (tgt := 48) hx hb dX7_isTaken_9 (by decide) (fun c5 => ?_) (fun c5 => ?_)
    · have h := h.1 c5
      refine lv_iload_n hx hb dX7_isTaken_48 rfl (lv_at hl 2 rfl) ?_
      obtain ⟨z6, h⟩ := h
      exact qe_z hx hb hr hlk z6 hG h (Nat.le_refl _) (Nat.le_refl _) dX7_isTaken_49
    · have h := h.2 c5
      refine lv_iload_n hx hb dX7_isTaken_12 rfl (lv_at hl 2 rfl) ?_
      refine lv_if_ne (tgt := 36) hx hb dX7_isTaken_13 (by decide) (fun c7 => ?_) (fun c7 => ?_)
      · have h := h.1 c7
        exact b36 K4 hK4 S a0 x1 x3 _ _ ls h hG (lv_sub hl [0, 1, 3] rfl)
      · have h := h.2 c7
        refine lv_aload_n hx hb dX7_isTaken_16 rfl (lv_at hl 0 rfl) ?_
        obtain ⟨q8, eq8, h⟩ := h
        refine qr_get (C := RX7) (T := TX7) (N := 35) (ci := 7) hx hb hts in7 hown hG hL2 fK3 (by decide) rfl 9 (by decide) rfl (hts (.fieldLink RX7 26 "QuayMeshModel" "where" "[I") (List.mem_of_getElem? (i := 2) rfl)) (fun _ h9 => h9) (v := .ref q8) (qs_rf eq8) dX7_isTaken_17 ?_
        refine lv_iload_n hx hb dX7_isTaken_20 rfl (lv_at hl 3 rfl) ?_
        obtain ⟨⟨hL9, fK10⟩, h⟩ := h
        obtain ⟨hi11, h⟩ := h
        refine qr_iald hx hb hG hL9 fK10 hi11 rfl dX7_isTaken_21 ?_
        refine lv_topi (fun v12 ev12 => ?_)
        have h := h v12 ev12
        refine lv_iconst (v := (1 : Int32)) hx hb dX7_isTaken_22 (by decide +kernel) ?_
        refine lv_icmp_ne (tgt := 40) hx hb dX7_isTaken_23 (by decide) (fun c13 => ?_) (fun c13 => ?_)
        · have h := h.1 c13
          exact b40 K4 hK4 S a0 x1 x3 _ _ ls h hG (lv_sub hl [0, 1, 3] rfl)
        · have h := h.2 c13
          refine lv_aload_n hx hb dX7_isTaken_26 rfl (lv_at hl 0 rfl) ?_
          obtain ⟨q14, eq14, h⟩ := h
          refine qr_get (C := RX7) (T := TX7) (N := 35) (ci := 7) hx hb hts in7 hown hG hL2 fK3 (by decide) rfl 8 (by decide) rfl (hts (.fieldLink RX7 23 "QuayMeshModel" "placeOf" "[I") (List.mem_of_getElem? (i := 3) rfl)) (fun _ h9 => h9) (v := .ref q14) (qs_rf eq14) dX7_isTaken_27 ?_
          refine lv_iload_n hx hb dX7_isTaken_30 rfl (lv_at hl 3 rfl) ?_
          obtain ⟨⟨hL15, fK16⟩, h⟩ := h
          obtain ⟨hi17, h⟩ := h
          refine qr_iald hx hb hG hL15 fK16 hi17 rfl dX7_isTaken_31 ?_
          refine lv_topi (fun v18 ev18 => ?_)
          have h := h v18 ev18
          refine lv_iload_n hx hb dX7_isTaken_32 rfl (lv_at hl 1 rfl) ?_
          refine lv_icmp_ne (tgt := 40) hx hb dX7_isTaken_33 (by decide) (fun c19 => ?_) (fun c19 => ?_)
          · have h := h.1 c19
            exact b40 K4 hK4 S a0 x1 x3 _ _ ls h hG (lv_sub hl [0, 1, 3] rfl)
          · have h := h.2 c19
            exact b36 K4 hK4 S a0 x1 x3 _ _ ls h hG (lv_sub hl [0, 1, 3] rfl)
  have b4 : ∀ n9 : Nat, ∀ (S : qs_S) (a0 : Nat) (x1 : Int32) (x2 : Int32) (x3 : Int32) (H : Heap) (locs : List Loc) (ls : Array Slot), wp_X7_isTaken_b4 g.2.2.2.2.2.2.1 g.2.2.2.2.2.2.2 post n9 S a0 x1 x2 x3 → qs_Gd g (qs_F g SA s.heap.size) s S H locs → lv_has ls 4 [(0, .ref a0), (1, .int x1), (2, .int x2), (3, .int x3)] → W p l e (headSpec wsX7_isTaken ({ frames := 0, cells := 0, slots := 0, locals := 0 } : Room)).room s m (([.ref a0z, .int x1z] : List Value)).toArray below meth c H locs 0 0 (MQ below (qs_Qi g (qs_F g SA s.heap.size) post) (([.ref a0z, .int x1z] : List Value)).toArray s 0 0 (qs_F g SA s.heap.size)) (F0 m 4 ls []) := by
    intro n9
    induction n9 with
    | zero =>
      intro S a0 x1 x2 x3 H locs ls h hG hl
      exact False.elim h
    | succ n9 ih => exact c4 _ ih
  have hl := lv_entry ([.ref a0z, .int x1z]) (n := 4) (Nat.le_of_ble_eq_true rfl)
  rw [lg_entry_eq]
  generalize (lg_sl ([.ref a0z, .int x1z]) ++ List.replicate (4 - (lg_sl ([.ref a0z, .int x1z])).length) Slot.unset).toArray = ls at hl ⊢
  have hl : lv_has ls 4 [(0, .ref a0z), (1, .int x1z)] := hl
  unfold wp_X7_isTaken at h
  refine lv_iconst (v := (0 : Int32)) hx hb dX7_isTaken_0 (by decide +kernel) ?_
  refine lv_istore_n (lv' := [(2, .int (0 : Int32)), (0, .ref a0z), (1, .int x1z)]) hx hb dX7_isTaken_1 rfl hl (by decide) rfl (fun ls hl => ?_)
  refine lv_iconst (v := (0 : Int32)) hx hb dX7_isTaken_2 (by decide +kernel) ?_
  refine lv_istore_n (lv' := [(3, .int (0 : Int32)), (2, .int (0 : Int32)), (0, .ref a0z), (1, .int x1z)]) hx hb dX7_isTaken_3 rfl hl (by decide) rfl (fun ls hl => ?_)
  obtain ⟨n20, h⟩ := h
  exact b4 n20 SA a0z x1z (0 : Int32) (0 : Int32) _ _ ls h hG (lv_sub hl [2, 3, 1, 0] rfl)
def wp_X7_lifts_b50 (t0 m9 : Nat) (post : Int32 → qs_S → Prop) (S : qs_S) : Prop := post (3 : Int32) S
def wp_X7_lifts (t0 m9 : Nat) (post : Int32 → qs_S → Prop) (SA : qs_S) (a0z : Nat) (x1z : Int32) (x2z : Int32) : Prop := (a0z ∈ qs_L SA ∧ qs_K SA a0z = 7) ∧ (∃ q3 : Nat, qs_R SA 20 a0z = some q3 ∧ ((q3 ∈ qs_L SA ∧ qs_K SA q3 = 8) ∧ (vp_in x2z (qs_Z SA q3) ∧ (∀ v7 : Int32, v7 = qs_A SA q3 x2z.toNatClampNeg → ∃ q8 : Nat, qs_R SA 9 a0z = some q8 ∧ ((q8 ∈ qs_L SA ∧ qs_K SA q8 = 8) ∧ (vp_in v7 (qs_Z SA q8) ∧ (∀ v12 : Int32, v12 = qs_A SA q8 v7.toNatClampNeg → (v12 = 0 → (∃ q14 : Nat, qs_R SA 8 a0z = some q14 ∧ ((q14 ∈ qs_L SA ∧ qs_K SA q14 = 8) ∧ (vp_in v7 (qs_Z SA q14) ∧ (∀ v18 : Int32, v18 = qs_A SA q14 v7.toNatClampNeg → wp_X7_canGo t0 m9 (fun (v22 : Int32) (S21 : qs_S) => (v22 = 0 → (wp_X7_lifts_b50 t0 m9 post S21)) ∧ (¬ v22 = 0 → ((a0z ∈ qs_L S21 ∧ qs_K S21 a0z = 7) ∧ (wp_X7_isTaken t0 m9 (fun (v29 : Int32) (S28 : qs_S) => (v29 = 0 → ((a0z ∈ qs_L S28 ∧ qs_K S28 a0z = 7) ∧ (∃ q33 : Nat, qs_R S28 16 a0z = some q33 ∧ ((q33 ∈ qs_L S28 ∧ qs_K S28 q33 = 8) ∧ (vp_in x1z (qs_Z S28 q33) ∧ (∃ q37 : Nat, qs_R (qs_wA S28 q33 x1z.toNatClampNeg v18) 9 a0z = some q37 ∧ ((q37 ∈ qs_L (qs_wA S28 q33 x1z.toNatClampNeg v18) ∧ qs_K (qs_wA S28 q33 x1z.toNatClampNeg v18) q37 = 8) ∧ (vp_in v7 (qs_Z (qs_wA S28 q33 x1z.toNatClampNeg v18) q37) ∧ (∃ q41 : Nat, qs_R (qs_wA (qs_wA S28 q33 x1z.toNatClampNeg v18) q37 v7.toNatClampNeg (1 : Int32)) 11 a0z = some q41 ∧ ((q41 ∈ qs_L (qs_wA (qs_wA S28 q33 x1z.toNatClampNeg v18) q37 v7.toNatClampNeg (1 : Int32)) ∧ qs_K (qs_wA (qs_wA S28 q33 x1z.toNatClampNeg v18) q37 v7.toNatClampNeg (1 : Int32)) q41 = 8) ∧ (vp_in v7 (qs_Z (qs_wA (qs_wA S28 q33 x1z.toNatClampNeg v18) q37 v7.toNatClampNeg (1 : Int32)) q41) ∧ (wp_X7_makes t0 m9 (fun (S47 : qs_S) => (a0z ∈ qs_L S47 ∧ qs_K S47 a0z = 7) ∧ (∃ q50 : Nat, qs_R S47 26 a0z = some q50 ∧ ((q50 ∈ qs_L S47 ∧ qs_K S47 q50 = 8) ∧ (vp_in x2z (qs_Z S47 q50) ∧ (∀ v54 : Int32, v54 = qs_A S47 q50 x2z.toNatClampNeg → ∀ v55 : Int32, v55 = (1 : Int32) <<< (x1z &&& 31) → ∀ v56 : Int32, v56 = v54 ||| v55 → vp_in x2z (qs_Z S47 q50) ∧ (wp_X7_acknowledges t0 m9 (fun (v61 : Int32) (S60 : qs_S) => post v61 S60) (qs_wA S47 q50 x2z.toNatClampNeg v56) a0z x1z x2z)))))) (qs_wA (qs_wA (qs_wA S28 q33 x1z.toNatClampNeg v18) q37 v7.toNatClampNeg (1 : Int32)) q41 v7.toNatClampNeg x1z) a0z x2z)))))))))))) ∧ (¬ v29 = 0 → (wp_X7_lifts_b50 t0 m9 post S28))) S21 a0z v18)))) SA a0z x1z v18))))) ∧ (¬ v12 = 0 → (wp_X7_acknowledges t0 m9 (fun (v65 : Int32) (S64 : qs_S) => post v65 S64) SA a0z x1z x2z)))))))))
set_option maxHeartbeats 4000000 in
set_option maxRecDepth 100000 in
theorem c_X7_lifts (l : Launch) (g : qs_G) (sz : Nat) (SA : qs_S) (a0z : Nat) (x1z : Int32) (x2z : Int32) {post : Int32 → qs_S → Prop} (h : wp_X7_lifts g.2.2.2.2.2.2.1 g.2.2.2.2.2.2.2 post SA a0z x1z x2z) : Met l yX7_lifts wsX7_lifts ({ frames := 2, cells := 0, slots := 0, locals := 47 } : Room) (qs_Pc g sz SA [.ref a0z, .int x1z, .int x2z]) (qs_Qi g (qs_F g SA sz) post) 0 0 (qs_F g SA sz) := by
  refine Met.ofW (cc := cX7_lifts) (maxL := 5) (ret := (some .int)) (by decide +kernel) rfl ?_
  intro p e s m args below meth c s₁ B hml hv
  obtain ⟨rfl, hsz, hG⟩ := qs_Gd.start hv
  subst hsz
  have hx := B.exec
  have hb := B.bytes
  have hr := B.returns
  have hts := atoms_spec (ws := wsX7_lifts) B.pre
  have hown : s.vm.findClass RX7 = some m.cls := findClass_of_methodNamed B.named
  have hlk := B.notSynchronized
  have in7 : ∀ w ∈ u_ws RX7 TX7 35, w ∈ wsX7_lifts := fun w h => List.mem_cons_of_mem _ (List.mem_append_right _ (h))
  have b50 : ∀ (S : qs_S) (H : Heap) (locs : List Loc) (ls : Array Slot), wp_X7_lifts_b50 g.2.2.2.2.2.2.1 g.2.2.2.2.2.2.2 post S → qs_Gd g (qs_F g SA s.heap.size) s S H locs → lv_has ls 5 [] → W p l e (headSpec wsX7_lifts ({ frames := 2, cells := 0, slots := 0, locals := 47 } : Room)).room s m (([.ref a0z, .int x1z, .int x2z] : List Value)).toArray below meth c H locs 0 0 (MQ below (qs_Qi g (qs_F g SA s.heap.size) post) (([.ref a0z, .int x1z, .int x2z] : List Value)).toArray s 0 0 (qs_F g SA s.heap.size)) (F0 m 50 ls []) := by
    intro S H locs ls h hG hl
    unfold wp_X7_lifts_b50 at h
    refine lv_iconst (v := (3 : Int32)) hx hb dX7_lifts_50 (by decide +kernel) ?_
    exact qe_i hx hb hr hlk hG h (Nat.le_refl _) (Nat.le_refl _) dX7_lifts_51
  have hl := lv_entry ([.ref a0z, .int x1z, .int x2z]) (n := 5) (Nat.le_of_ble_eq_true rfl)
  rw [lg_entry_eq]
  generalize (lg_sl ([.ref a0z, .int x1z, .int x2z]) ++ List.replicate (5 - (lg_sl ([.ref a0z, .int x1z, .int x2z])).length) Slot.unset).toArray = ls at hl ⊢
  have hl : lv_has ls 5 [(0, .ref a0z), (1, .int x1z), (2, .int x2z)] := hl
  unfold wp_X7_lifts at h
  refine lv_aload_n hx hb dX7_lifts_0 rfl (lv_at hl 0 rfl) ?_
  obtain ⟨⟨hL1, fK2⟩, h⟩ := h
  obtain ⟨q3, eq3, h⟩ := h
  refine qr_get (C := RX7) (T := TX7) (N := 35) (ci := 7) hx hb hts in7 hown hG hL1 fK2 (by decide) rfl 20 (by decide) rfl (hts (.fieldLink RX7 56 "QuayMeshModel" "box" "[I") (List.mem_of_getElem? (i := 1) rfl)) (fun _ h9 => h9) (v := .ref q3) (qs_rf eq3) dX7_lifts_1 ?_
  refine lv_iload_n hx hb dX7_lifts_4 rfl (lv_at hl 2 rfl) ?_
  obtain ⟨⟨hL4, fK5⟩, h⟩ := h
  obtain ⟨hi6, h⟩ := h
  refine qr_iald hx hb hG hL4 fK5 hi6 rfl dX7_lifts_5 ?_
  refine lv_topi (fun v7 ev7 => ?_)
  have h := h v7 ev7
  refine lv_istore_n (lv' := [(3, .int v7), (0, .ref a0z), (1, .int x1z), (2, .int x2z)]) hx hb dX7_lifts_6 rfl hl (by decide) rfl (fun ls hl => ?_)
  refine lv_aload_n hx hb dX7_lifts_7 rfl (lv_at hl 1 rfl) ?_
  obtain ⟨q8, eq8, h⟩ := h
  refine qr_get (C := RX7) (T := TX7) (N := 35) (ci := 7) hx hb hts in7 hown hG hL1 fK2 (by decide) rfl 9 (by decide) rfl (hts (.fieldLink RX7 26 "QuayMeshModel" "where" "[I") (List.mem_of_getElem? (i := 2) rfl)) (fun _ h9 => h9) (v := .ref q8) (qs_rf eq8) dX7_lifts_8 ?_
  refine lv_iload_n hx hb dX7_lifts_11 rfl (lv_at hl 0 rfl) ?_
  obtain ⟨⟨hL9, fK10⟩, h⟩ := h
  obtain ⟨hi11, h⟩ := h
  refine qr_iald hx hb hG hL9 fK10 hi11 rfl dX7_lifts_12 ?_
  refine lv_topi (fun v12 ev12 => ?_)
  have h := h v12 ev12
  refine lv_if_eq (tgt := 23) hx hb dX7_lifts_13 (by decide) (fun c13 => ?_) (fun c13 => ?_)
  · have h := h.1 c13
    refine lv_aload_n hx hb dX7_lifts_23 rfl (lv_at hl 1 rfl) ?_
    obtain ⟨q14, eq14, h⟩ := h
    refine qr_get (C := RX7) (T := TX7) (N := 35) (ci := 7) hx hb hts in7 hown hG hL1 fK2 (by decide) rfl 8 (by decide) rfl (hts (.fieldLink RX7 23 "QuayMeshModel" "placeOf" "[I") (List.mem_of_getElem? (i := 3) rfl)) (fun _ h9 => h9) (v := .ref q14) (qs_rf eq14) dX7_lifts_24 ?_
    refine lv_iload_n hx hb dX7_lifts_27 rfl (lv_at hl 0 rfl) ?_
    obtain ⟨⟨hL15, fK16⟩, h⟩ := h
    obtain ⟨hi17, h⟩ := h
    refine qr_iald hx hb hG hL15 fK16 hi17 rfl dX7_lifts_28 ?_
    refine lv_topi (fun v18 ev18 => ?_)
    have h := h v18 ev18
    refine lv_istore (lv' := [(4, .int v18), (3, .int v7), (0, .ref a0z), (1, .int x1z), (2, .int x2z)]) hx hb dX7_lifts_29 hl (by decide) rfl (fun ls hl => ?_)
    refine lv_aload_n hx hb dX7_lifts_31 rfl (lv_at hl 2 rfl) ?_
    refine lv_iload_n hx hb dX7_lifts_32 rfl (lv_at hl 3 rfl) ?_
    refine lv_iload hx hb dX7_lifts_33 (lv_at hl 0 rfl) ?_
    refine qc_i hG (va_runV (As := [.int x1z, .int v18]) (rest := []) ⟨hx, hb, hml, hown, hts⟩ (c_X7_canGo l g _ SA a0z x1z v18 h) (cwV 2 hts gX7_lifts_X7_canGo rfl rfl rfl (by decide +kernel) ⟨(Nat.le_of_ble_eq_true rfl), (Nat.le_of_ble_eq_true rfl)⟩) ⟨qs_Pc.blind _ _ _ _, hG.recv hL1 fK2 (by decide) rfl, hG.pre _⟩ rfl rfl hl.1 rfl (lv_room (Nat.le_of_ble_eq_true rfl)) dX7_lifts_35 ⟨Nat.zero_le _, Nat.zero_le _⟩) (fun v22 S21 H locs h hG => ?_)
    refine lv_if_eq (tgt := 50) hx hb dX7_lifts_38 (by decide) (fun c23 => ?_) (fun c23 => ?_)
    · have h := h.1 c23
      exact b50 S21 _ _ ls h hG (lv_sub hl [] rfl)
    · have h := h.2 c23
      refine lv_aload_n hx hb dX7_lifts_41 rfl (lv_at hl 2 rfl) ?_
      refine lv_iload hx hb dX7_lifts_42 (lv_at hl 0 rfl) ?_
      obtain ⟨⟨hL26, fK27⟩, h⟩ := h
      refine qc_i hG (va_runV (As := [.int v18]) (rest := []) ⟨hx, hb, hml, hown, hts⟩ (c_X7_isTaken l g _ S21 a0z v18 h) (cwV 1 hts gX7_lifts_X7_isTaken rfl rfl rfl (by decide +kernel) ⟨(Nat.le_of_ble_eq_true rfl), (Nat.le_of_ble_eq_true rfl)⟩) ⟨qs_Pc.blind _ _ _ _, hG.recv hL26 fK27 (by decide) rfl, hG.pre _⟩ rfl rfl hl.1 rfl (lv_room (Nat.le_of_ble_eq_true rfl)) dX7_lifts_44 ⟨Nat.zero_le _, Nat.zero_le _⟩) (fun v29 S28 H locs h hG => ?_)
      refine lv_if_eq (tgt := 52) hx hb dX7_lifts_47 (by decide) (fun c30 => ?_) (fun c30 => ?_)
      · have h := h.1 c30
        refine lv_aload_n hx hb dX7_lifts_52 rfl (lv_at hl 2 rfl) ?_
        obtain ⟨⟨hL31, fK32⟩, h⟩ := h
        obtain ⟨q33, eq33, h⟩ := h
        refine qr_get (C := RX7) (T := TX7) (N := 35) (ci := 7) hx hb hts in7 hown hG hL31 fK32 (by decide) rfl 16 (by decide) rfl (hts (.fieldLink RX7 47 "QuayMeshModel" "stands" "[I") (List.mem_of_getElem? (i := 4) rfl)) (fun _ h9 => h9) (v := .ref q33) (qs_rf eq33) dX7_lifts_53 ?_
        refine lv_iload_n hx hb dX7_lifts_56 rfl (lv_at hl 3 rfl) ?_
        refine lv_iload hx hb dX7_lifts_57 (lv_at hl 0 rfl) ?_
        obtain ⟨⟨hL34, fK35⟩, h⟩ := h
        obtain ⟨hi36, h⟩ := h
        refine qr_iast hx hb hG hL34 fK35 hi36 dX7_lifts_59 (fun H locs hG => ?_)
        refine lv_aload_n hx hb dX7_lifts_60 rfl (lv_at hl 2 rfl) ?_
        obtain ⟨q37, eq37, h⟩ := h
        refine qr_get (C := RX7) (T := TX7) (N := 35) (ci := 7) hx hb hts in7 hown hG hL31 fK32 (by decide) rfl 9 (by decide) rfl (hts (.fieldLink RX7 26 "QuayMeshModel" "where" "[I") (List.mem_of_getElem? (i := 2) rfl)) (fun _ h9 => h9) (v := .ref q37) (qs_rf eq37) dX7_lifts_61 ?_
        refine lv_iload_n hx hb dX7_lifts_64 rfl (lv_at hl 1 rfl) ?_
        refine lv_iconst (v := (1 : Int32)) hx hb dX7_lifts_65 (by decide +kernel) ?_
        obtain ⟨⟨hL38, fK39⟩, h⟩ := h
        obtain ⟨hi40, h⟩ := h
        refine qr_iast hx hb hG hL38 fK39 hi40 dX7_lifts_66 (fun H locs hG => ?_)
        refine lv_aload_n hx hb dX7_lifts_67 rfl (lv_at hl 2 rfl) ?_
        obtain ⟨q41, eq41, h⟩ := h
        refine qr_get (C := RX7) (T := TX7) (N := 35) (ci := 7) hx hb hts in7 hown hG hL31 fK32 (by decide) rfl 11 (by decide) rfl (hts (.fieldLink RX7 32 "QuayMeshModel" "lifter" "[I") (List.mem_of_getElem? (i := 5) rfl)) (fun _ h9 => h9) (v := .ref q41) (qs_rf eq41) dX7_lifts_68 ?_
        refine lv_iload_n hx hb dX7_lifts_71 rfl (lv_at hl 1 rfl) ?_
        refine lv_iload_n hx hb dX7_lifts_72 rfl (lv_at hl 3 rfl) ?_
        obtain ⟨⟨hL42, fK43⟩, h⟩ := h
        obtain ⟨hi44, h⟩ := h
        refine qr_iast hx hb hG hL42 fK43 hi44 dX7_lifts_73 (fun H locs hG => ?_)
        refine lv_aload_n hx hb dX7_lifts_74 rfl (lv_at hl 2 rfl) ?_
        refine lv_iload_n hx hb dX7_lifts_75 rfl (lv_at hl 4 rfl) ?_
        refine qc_v hG (va_runV (As := [.int x2z]) (rest := []) ⟨hx, hb, hml, hown, hts⟩ (c_X7_makes l g _ (qs_wA (qs_wA (qs_wA S28 q33 x1z.toNatClampNeg v18) q37 v7.toNatClampNeg (1 : Int32)) q41 v7.toNatClampNeg x1z) a0z x2z h) (cwV 1 hts gX7_lifts_X7_makes rfl rfl rfl (by decide +kernel) ⟨(Nat.le_of_ble_eq_true rfl), (Nat.le_of_ble_eq_true rfl)⟩) ⟨qs_Pc.blind _ _ _ _, hG.recv hL31 fK32 (by decide) rfl, hG.pre _⟩ rfl rfl hl.1 rfl (lv_room (Nat.le_of_ble_eq_true rfl)) dX7_lifts_76 ⟨Nat.zero_le _, Nat.zero_le _⟩) (fun S47 H locs h hG => ?_)
        refine lv_aload_n hx hb dX7_lifts_79 rfl (lv_at hl 2 rfl) ?_
        obtain ⟨⟨hL48, fK49⟩, h⟩ := h
        obtain ⟨q50, eq50, h⟩ := h
        refine qr_get (C := RX7) (T := TX7) (N := 35) (ci := 7) hx hb hts in7 hown hG hL48 fK49 (by decide) rfl 26 (by decide) rfl (hts (.fieldLink RX7 71 "QuayMeshModel" "doneBy" "[I") (List.mem_of_getElem? (i := 6) rfl)) (fun _ h9 => h9) (v := .ref q50) (qs_rf eq50) dX7_lifts_80 ?_
        refine lv_iload_n hx hb dX7_lifts_83 rfl (lv_at hl 4 rfl) ?_
        refine lv_dup2_11 hx hb dX7_lifts_84 rfl rfl ?_
        obtain ⟨⟨hL51, fK52⟩, h⟩ := h
        obtain ⟨hi53, h⟩ := h
        refine qr_iald hx hb hG hL51 fK52 hi53 rfl dX7_lifts_85 ?_
        refine lv_topi (fun v54 ev54 => ?_)
        have h := h v54 ev54
        refine lv_iconst (v := (1 : Int32)) hx hb dX7_lifts_86 (by decide +kernel) ?_
        refine lv_iload_n hx hb dX7_lifts_87 rfl (lv_at hl 3 rfl) ?_
        refine lv_ishl hx hb dX7_lifts_88 ?_
        refine lv_topi (fun v55 ev55 => ?_)
        have h := h v55 ev55
        refine lv_ior hx hb dX7_lifts_89 ?_
        refine lv_topi (fun v56 ev56 => ?_)
        have h := h v56 ev56
        obtain ⟨hi57, h⟩ := h
        refine qr_iast hx hb hG hL51 fK52 hi57 dX7_lifts_90 (fun H locs hG => ?_)
        refine lv_aload_n hx hb dX7_lifts_91 rfl (lv_at hl 2 rfl) ?_
        refine lv_iload_n hx hb dX7_lifts_92 rfl (lv_at hl 3 rfl) ?_
        refine lv_iload_n hx hb dX7_lifts_93 rfl (lv_at hl 4 rfl) ?_
        refine qc_i hG (va_runV (As := [.int x1z, .int x2z]) (rest := []) ⟨hx, hb, hml, hown, hts⟩ (c_X7_acknowledges l g _ (qs_wA S47 q50 x2z.toNatClampNeg v56) a0z x1z x2z h) (cwV 2 hts gX7_lifts_X7_acknowledges rfl rfl rfl (by decide +kernel) ⟨(Nat.le_of_ble_eq_true rfl), (Nat.le_of_ble_eq_true rfl)⟩) ⟨qs_Pc.blind _ _ _ _, hG.recv hL48 fK49 (by decide) rfl, hG.pre _⟩ rfl rfl hl.1 rfl (lv_room (Nat.le_of_ble_eq_true rfl)) dX7_lifts_94 ⟨Nat.zero_le _, Nat.zero_le _⟩) (fun v61 S60 H locs h hG => ?_)
        exact qe_i hx hb hr hlk hG h (Nat.le_refl _) (Nat.le_refl _) dX7_lifts_97
      · have h := h.2 c30
        exact b50 S28 _ _ ls h hG (lv_sub hl [] rfl)
  · have h := h.2 c13
    refine lv_aload_n hx hb dX7_lifts_16 rfl (lv_at hl 1 rfl) ?_
    refine lv_iload_n hx hb dX7_lifts_17 rfl (lv_at hl 2 rfl) ?_
    refine lv_iload_n hx hb dX7_lifts_18 rfl (lv_at hl 3 rfl) ?_
    refine qc_i hG (va_runV (As := [.int x1z, .int x2z]) (rest := []) ⟨hx, hb, hml, hown, hts⟩ (c_X7_acknowledges l g _ SA a0z x1z x2z h) (cwV 2 hts gX7_lifts_X7_acknowledges rfl rfl rfl (by decide +kernel) ⟨(Nat.le_of_ble_eq_true rfl), (Nat.le_of_ble_eq_true rfl)⟩) ⟨qs_Pc.blind _ _ _ _, hG.recv hL1 fK2 (by decide) rfl, hG.pre _⟩ rfl rfl hl.1 rfl (lv_room (Nat.le_of_ble_eq_true rfl)) dX7_lifts_19 ⟨Nat.zero_le _, Nat.zero_le _⟩) (fun v65 S64 H locs h hG => ?_)
    exact qe_i hx hb hr hlk hG h (Nat.le_refl _) (Nat.le_refl _) dX7_lifts_22
def wp_X7_deliver_b32 (t0 m9 : Nat) (post : Int32 → qs_S → Prop) (S : qs_S) : Prop := post (0 : Int32) S
def wp_X7_deliver_b13 (t0 m9 : Nat) (post : Int32 → qs_S → Prop) (S : qs_S) (a0 : Nat) (x1 : Int32) (r0 : Nat) (s1 : Int32) : Prop := (r0 ∈ qs_L S ∧ qs_K S r0 = 7) ∧ ((a0 ∈ qs_L (qs_wI S 0 r0 s1) ∧ qs_K (qs_wI S 0 r0 s1) a0 = 7) ∧ (∀ v5 : Int32, v5 = qs_I (qs_wI S 0 r0 s1) 0 a0 → (0 < v5 → (wp_X7_deliver_b32 t0 m9 post (qs_wI S 0 r0 s1))) ∧ (¬ 0 < v5 → (∃ q7 : Nat, qs_R (qs_wI S 0 r0 s1) 29 a0 = some q7 ∧ ((q7 ∈ qs_L (qs_wI S 0 r0 s1) ∧ qs_K (qs_wI S 0 r0 s1) q7 = 8) ∧ (vp_in x1 (qs_Z (qs_wI S 0 r0 s1) q7) ∧ (∀ v11 : Int32, v11 = qs_A (qs_wI S 0 r0 s1) q7 x1.toNatClampNeg → (¬ v11 = 0 → (∃ q13 : Nat, qs_R (qs_wI S 0 r0 s1) 30 a0 = some q13 ∧ (∀ v14 : Int32, v14 = (80 : Int32) * x1 → (q13 ∈ qs_L (qs_wI S 0 r0 s1) ∧ qs_K (qs_wI S 0 r0 s1) q13 = 8) ∧ (vp_in v14 (qs_Z (qs_wI S 0 r0 s1) q13) ∧ (∀ v18 : Int32, v18 = qs_A (qs_wI S 0 r0 s1) q13 v14.toNatClampNeg → ∃ q19 : Nat, qs_R (qs_wI S 0 r0 s1) 22 a0 = some q19 ∧ ((q19 ∈ qs_L (qs_wI S 0 r0 s1) ∧ qs_K (qs_wI S 0 r0 s1) q19 = 8) ∧ (vp_in v18 (qs_Z (qs_wI S 0 r0 s1) q19) ∧ (∀ v23 : Int32, v23 = qs_A (qs_wI S 0 r0 s1) q19 v18.toNatClampNeg → ∀ v24 : Int32, v24 = v23 + (1 : Int32) → vp_in v18 (qs_Z (qs_wI S 0 r0 s1) q19) ∧ (wp_X7_quits t0 m9 (fun (S28 : qs_S) => (a0 ∈ qs_L S28 ∧ qs_K S28 a0 = 7) ∧ (wp_X7_joins t0 m9 (fun (S33 : qs_S) => (a0 ∈ qs_L S33 ∧ qs_K S33 a0 = 7) ∧ (∃ q36 : Nat, qs_R S33 31 a0 = some q36 ∧ ((q36 ∈ qs_L S33 ∧ qs_K S33 q36 = 8) ∧ (vp_in x1 (qs_Z S33 q36) ∧ (∀ v40 : Int32, v40 = qs_A S33 q36 x1.toNatClampNeg → (v40 ≤ 0 → (∃ q42 : Nat, qs_R S33 17 a0 = some q42 ∧ ((q42 ∈ qs_L S33 ∧ qs_K S33 q42 = 9) ∧ (vp_in x1 (qs_Z S33 q42) ∧ (∀ v46 : Int32, v46 = qs_A S33 q42 x1.toNatClampNeg → (v46 = 0 → (∃ q48 : Nat, qs_R S33 26 a0 = some q48 ∧ ((q48 ∈ qs_L S33 ∧ qs_K S33 q48 = 8) ∧ (vp_in v18 (qs_Z S33 q48) ∧ (∀ v52 : Int32, v52 = qs_A S33 q48 v18.toNatClampNeg → ∀ v53 : Int32, v53 = v52 >>> (x1 &&& 31) → ∀ v54 : Int32, v54 = v53 &&& (1 : Int32) → (¬ v54 = (1 : Int32) → (wp_X7_isCrane t0 m9 (fun (v59 : Int32) (S58 : qs_S) => (v59 = 0 → ((a0 ∈ qs_L S58 ∧ qs_K S58 a0 = 7) ∧ (∃ q63 : Nat, qs_R S58 34 a0 = some q63 ∧ ((q63 ∈ qs_L S58 ∧ qs_K S58 q63 = 8) ∧ (vp_in x1 (qs_Z S58 q63) ∧ (post (6 : Int32) (qs_wA S58 q63 x1.toNatClampNeg v18))))))) ∧ (¬ v59 = 0 → ((a0 ∈ qs_L S58 ∧ qs_K S58 a0 = 7) ∧ (wp_X7_lifts t0 m9 (fun (v72 : Int32) (S71 : qs_S) => post v72 S71) S58 a0 x1 v18)))) S33 x1)) ∧ (v54 = (1 : Int32) → (wp_X7_acknowledges t0 m9 (fun (v76 : Int32) (S75 : qs_S) => post v76 S75) S33 a0 x1 v18))))))) ∧ (¬ v46 = 0 → (post (2 : Int32) S33))))))) ∧ (¬ v40 ≤ 0 → (∃ q77 : Nat, qs_R S33 31 a0 = some q77 ∧ ((q77 ∈ qs_L S33 ∧ qs_K S33 q77 = 8) ∧ (vp_in x1 (qs_Z S33 q77) ∧ (∀ v81 : Int32, v81 = qs_A S33 q77 x1.toNatClampNeg → ∀ v82 : Int32, v82 = v81 - (1 : Int32) → vp_in x1 (qs_Z S33 q77) ∧ (post (1 : Int32) (qs_wA S33 q77 x1.toNatClampNeg v82)))))))))))) S28 a0 x1 v18)) (qs_wA (qs_wI S 0 r0 s1) q19 v18.toNatClampNeg v24) a0 x1 v18))))))))) ∧ (v11 = 0 → (wp_X7_deliver_b32 t0 m9 post (qs_wI S 0 r0 s1))))))))))
def wp_X7_deliver (t0 m9 : Nat) (post : Int32 → qs_S → Prop) (SA : qs_S) (a0z : Nat) (x1z : Int32) : Prop := wp_X7_isWorker t0 m9 (fun (v87 : Int32) (S86 : qs_S) => (v87 = 0 → (wp_X7_deliver_b13 t0 m9 post S86 a0z x1z a0z (1 : Int32))) ∧ (¬ v87 = 0 → (wp_X7_deliver_b13 t0 m9 post S86 a0z x1z a0z (0 : Int32)))) SA x1z
set_option maxHeartbeats 4000000 in
set_option maxRecDepth 100000 in
theorem c_X7_deliver (l : Launch) (g : qs_G) (sz : Nat) (SA : qs_S) (a0z : Nat) (x1z : Int32) {post : Int32 → qs_S → Prop} (h : wp_X7_deliver g.2.2.2.2.2.2.1 g.2.2.2.2.2.2.2 post SA a0z x1z) : Met l yX7_deliver wsX7_deliver ({ frames := 3, cells := 0, slots := 0, locals := 71 } : Room) (qs_Pc g sz SA [.ref a0z, .int x1z]) (qs_Qi g (qs_F g SA sz) post) 0 0 (qs_F g SA sz) := by
  refine Met.ofW (cc := cX7_deliver) (maxL := 3) (ret := (some .int)) (by decide +kernel) rfl ?_
  intro p e s m args below meth c s₁ B hml hv
  obtain ⟨rfl, hsz, hG⟩ := qs_Gd.start hv
  subst hsz
  have hx := B.exec
  have hb := B.bytes
  have hr := B.returns
  have hts := atoms_spec (ws := wsX7_deliver) B.pre
  have hown : s.vm.findClass RX7 = some m.cls := findClass_of_methodNamed B.named
  have hlk := B.notSynchronized
  have in7 : ∀ w ∈ u_ws RX7 TX7 35, w ∈ wsX7_deliver := fun w h => List.mem_cons_of_mem _ (List.mem_append_right _ (h))
  have b32 : ∀ (S : qs_S) (H : Heap) (locs : List Loc) (ls : Array Slot), wp_X7_deliver_b32 g.2.2.2.2.2.2.1 g.2.2.2.2.2.2.2 post S → qs_Gd g (qs_F g SA s.heap.size) s S H locs → lv_has ls 3 [] → W p l e (headSpec wsX7_deliver ({ frames := 3, cells := 0, slots := 0, locals := 71 } : Room)).room s m (([.ref a0z, .int x1z] : List Value)).toArray below meth c H locs 0 0 (MQ below (qs_Qi g (qs_F g SA s.heap.size) post) (([.ref a0z, .int x1z] : List Value)).toArray s 0 0 (qs_F g SA s.heap.size)) (F0 m 32 ls []) := by
    intro S H locs ls h hG hl
    unfold wp_X7_deliver_b32 at h
    refine lv_iconst (v := (0 : Int32)) hx hb dX7_deliver_32 (by decide +kernel) ?_
    exact qe_i hx hb hr hlk hG h (Nat.le_refl _) (Nat.le_refl _) dX7_deliver_33
  have b13 : ∀ (S : qs_S) (a0 : Nat) (x1 : Int32) (r0 : Nat) (s1 : Int32) (H : Heap) (locs : List Loc) (ls : Array Slot), wp_X7_deliver_b13 g.2.2.2.2.2.2.1 g.2.2.2.2.2.2.2 post S a0 x1 r0 s1 → qs_Gd g (qs_F g SA s.heap.size) s S H locs → lv_has ls 3 [(0, .ref a0), (1, .int x1)] → W p l e (headSpec wsX7_deliver ({ frames := 3, cells := 0, slots := 0, locals := 71 } : Room)).room s m (([.ref a0z, .int x1z] : List Value)).toArray below meth c H locs 0 0 (MQ below (qs_Qi g (qs_F g SA s.heap.size) post) (([.ref a0z, .int x1z] : List Value)).toArray s 0 0 (qs_F g SA s.heap.size)) (F0 m 13 ls [.int s1, .ref r0]) := by
    intro S a0 x1 r0 s1 H locs ls h hG hl
    unfold wp_X7_deliver_b13 at h
    obtain ⟨⟨hL1, fK2⟩, h⟩ := h
    refine qr_putI (C := RX7) (T := TX7) (N := 35) (ci := 7) hx hb hts in7 tyX7 tyX7_ok nmX7 hown hG hL1 fK2 (by decide) rfl 0 (by decide) rfl (hts (.fieldLink RX7 95 "QuayMeshModel" "thrown" "I") (List.mem_of_getElem? (i := 1) rfl)) (fun _ h9 => h9) rfl (x := s1) (tyX7_ok 0 (by decide)) rfl rfl dX7_deliver_13 (fun H locs hG => ?_)
    refine lv_aload_n hx hb dX7_deliver_16 rfl (lv_at hl 0 rfl) ?_
    obtain ⟨⟨hL3, fK4⟩, h⟩ := h
    refine qr_get (C := RX7) (T := TX7) (N := 35) (ci := 7) hx hb hts in7 hown hG hL3 fK4 (by decide) rfl 0 (by decide) rfl (hts (.fieldLink RX7 95 "QuayMeshModel" "thrown" "I") (List.mem_of_getElem? (i := 1) rfl)) (fun _ h9 => h9) (v := .int (qs_I (qs_wI S 0 r0 s1) 0 a0)) rfl dX7_deliver_17 ?_
    refine lv_topi (fun v5 ev5 => ?_)
    have h := h v5 ev5
    refine lv_if_gt (tgt := 32) hx hb dX7_deliver_20 (by decide) (fun c6 => ?_) (fun c6 => ?_)
    · have h := h.1 c6
      exact b32 (qs_wI S 0 r0 s1) _ _ ls h hG (lv_sub hl [] rfl)
    · have h := h.2 c6
      refine lv_aload_n hx hb dX7_deliver_23 rfl (lv_at hl 0 rfl) ?_
      obtain ⟨q7, eq7, h⟩ := h
      refine qr_get (C := RX7) (T := TX7) (N := 35) (ci := 7) hx hb hts in7 hown hG hL3 fK4 (by decide) rfl 29 (by decide) rfl (hts (.fieldLink RX7 77 "QuayMeshModel" "many" "[I") (List.mem_of_getElem? (i := 2) rfl)) (fun _ h9 => h9) (v := .ref q7) (qs_rf eq7) dX7_deliver_24 ?_
      refine lv_iload_n hx hb dX7_deliver_27 rfl (lv_at hl 1 rfl) ?_
      obtain ⟨⟨hL8, fK9⟩, h⟩ := h
      obtain ⟨hi10, h⟩ := h
      refine qr_iald hx hb hG hL8 fK9 hi10 rfl dX7_deliver_28 ?_
      refine lv_topi (fun v11 ev11 => ?_)
      have h := h v11 ev11
      refine lv_if_ne (tgt := 34) hx hb dX7_deliver_29 (by decide) (fun c12 => ?_) (fun c12 => ?_)
      · have h := h.1 c12
        refine lv_aload_n hx hb dX7_deliver_34 rfl (lv_at hl 0 rfl) ?_
        obtain ⟨q13, eq13, h⟩ := h
        refine qr_get (C := RX7) (T := TX7) (N := 35) (ci := 7) hx hb hts in7 hown hG hL3 fK4 (by decide) rfl 30 (by decide) rfl (hts (.fieldLink RX7 80 "QuayMeshModel" "queue" "[I") (List.mem_of_getElem? (i := 3) rfl)) (fun _ h9 => h9) (v := .ref q13) (qs_rf eq13) dX7_deliver_35 ?_
        refine lv_bipush (v := (80 : Int32)) hx hb dX7_deliver_38 (by decide +kernel) ?_
        refine lv_iload_n hx hb dX7_deliver_40 rfl (lv_at hl 1 rfl) ?_
        refine lv_imul hx hb dX7_deliver_41 ?_
        refine lv_topi (fun v14 ev14 => ?_)
        have h := h v14 ev14
        obtain ⟨⟨hL15, fK16⟩, h⟩ := h
        obtain ⟨hi17, h⟩ := h
        refine qr_iald hx hb hG hL15 fK16 hi17 rfl dX7_deliver_42 ?_
        refine lv_topi (fun v18 ev18 => ?_)
        have h := h v18 ev18
        refine lv_istore_n (lv' := [(2, .int v18), (0, .ref a0), (1, .int x1)]) hx hb dX7_deliver_43 rfl hl (by decide) rfl (fun ls hl => ?_)
        refine lv_aload_n hx hb dX7_deliver_44 rfl (lv_at hl 1 rfl) ?_
        obtain ⟨q19, eq19, h⟩ := h
        refine qr_get (C := RX7) (T := TX7) (N := 35) (ci := 7) hx hb hts in7 hown hG hL3 fK4 (by decide) rfl 22 (by decide) rfl (hts (.fieldLink RX7 62 "QuayMeshModel" "handed" "[I") (List.mem_of_getElem? (i := 4) rfl)) (fun _ h9 => h9) (v := .ref q19) (qs_rf eq19) dX7_deliver_45 ?_
        refine lv_iload_n hx hb dX7_deliver_48 rfl (lv_at hl 0 rfl) ?_
        refine lv_dup2_11 hx hb dX7_deliver_49 rfl rfl ?_
        obtain ⟨⟨hL20, fK21⟩, h⟩ := h
        obtain ⟨hi22, h⟩ := h
        refine qr_iald hx hb hG hL20 fK21 hi22 rfl dX7_deliver_50 ?_
        refine lv_topi (fun v23 ev23 => ?_)
        have h := h v23 ev23
        refine lv_iconst (v := (1 : Int32)) hx hb dX7_deliver_51 (by decide +kernel) ?_
        refine lv_iadd hx hb dX7_deliver_52 ?_
        refine lv_topi (fun v24 ev24 => ?_)
        have h := h v24 ev24
        obtain ⟨hi25, h⟩ := h
        refine qr_iast hx hb hG hL20 fK21 hi25 dX7_deliver_53 (fun H locs hG => ?_)
        refine lv_aload_n hx hb dX7_deliver_54 rfl (lv_at hl 1 rfl) ?_
        refine lv_iload_n hx hb dX7_deliver_55 rfl (lv_at hl 2 rfl) ?_
        refine lv_iload_n hx hb dX7_deliver_56 rfl (lv_at hl 0 rfl) ?_
        refine qc_v hG (va_runV (As := [.int x1, .int v18]) (rest := []) ⟨hx, hb, hml, hown, hts⟩ (c_X7_quits l g _ (qs_wA (qs_wI S 0 r0 s1) q19 v18.toNatClampNeg v24) a0 x1 v18 h) (cwV 2 hts gX7_deliver_X7_quits rfl rfl rfl (by decide +kernel) ⟨(Nat.le_of_ble_eq_true rfl), (Nat.le_of_ble_eq_true rfl)⟩) ⟨qs_Pc.blind _ _ _ _, hG.recv hL3 fK4 (by decide) rfl, hG.pre _⟩ rfl rfl hl.1 rfl (lv_room (Nat.le_of_ble_eq_true rfl)) dX7_deliver_57 ⟨Nat.zero_le _, Nat.zero_le _⟩) (fun S28 H locs h hG => ?_)
        refine lv_aload_n hx hb dX7_deliver_60 rfl (lv_at hl 1 rfl) ?_
        refine lv_iload_n hx hb dX7_deliver_61 rfl (lv_at hl 2 rfl) ?_
        refine lv_iload_n hx hb dX7_deliver_62 rfl (lv_at hl 0 rfl) ?_
        obtain ⟨⟨hL31, fK32⟩, h⟩ := h
        refine qc_v hG (va_runV (As := [.int x1, .int v18]) (rest := []) ⟨hx, hb, hml, hown, hts⟩ (c_X7_joins l g _ S28 a0 x1 v18 h) (cwV 2 hts gX7_deliver_X7_joins rfl rfl rfl (by decide +kernel) ⟨(Nat.le_of_ble_eq_true rfl), (Nat.le_of_ble_eq_true rfl)⟩) ⟨qs_Pc.blind _ _ _ _, hG.recv hL31 fK32 (by decide) rfl, hG.pre _⟩ rfl rfl hl.1 rfl (lv_room (Nat.le_of_ble_eq_true rfl)) dX7_deliver_63 ⟨Nat.zero_le _, Nat.zero_le _⟩) (fun S33 H locs h hG => ?_)
        refine lv_aload_n hx hb dX7_deliver_66 rfl (lv_at hl 1 rfl) ?_
        obtain ⟨⟨hL34, fK35⟩, h⟩ := h
        obtain ⟨q36, eq36, h⟩ := h
        refine qr_get (C := RX7) (T := TX7) (N := 35) (ci := 7) hx hb hts in7 hown hG hL34 fK35 (by decide) rfl 31 (by decide) rfl (hts (.fieldLink RX7 83 "QuayMeshModel" "lossDue" "[I") (List.mem_of_getElem? (i := 5) rfl)) (fun _ h9 => h9) (v := .ref q36) (qs_rf eq36) dX7_deliver_67 ?_
        refine lv_iload_n hx hb dX7_deliver_70 rfl (lv_at hl 2 rfl) ?_
        obtain ⟨⟨hL37, fK38⟩, h⟩ := h
        obtain ⟨hi39, h⟩ := h
        refine qr_iald hx hb hG hL37 fK38 hi39 rfl dX7_deliver_71 ?_
        refine lv_topi (fun v40 ev40 => ?_)
        have h := h v40 ev40
        refine lv_if_le (tgt := 87) hx hb dX7_deliver_72 (by decide) (fun c41 => ?_) (fun c41 => ?_)
        · have h := h.1 c41
          refine lv_aload_n hx hb dX7_deliver_87 rfl (lv_at hl 1 rfl) ?_
          obtain ⟨q42, eq42, h⟩ := h
          refine qr_get (C := RX7) (T := TX7) (N := 35) (ci := 7) hx hb hts in7 hown hG hL34 fK35 (by decide) rfl 17 (by decide) rfl (hts (.fieldLink RX7 50 "QuayMeshModel" "isSilent" "[Z") (List.mem_of_getElem? (i := 6) rfl)) (fun _ h9 => h9) (v := .ref q42) (qs_rf eq42) dX7_deliver_88 ?_
          refine lv_iload_n hx hb dX7_deliver_91 rfl (lv_at hl 2 rfl) ?_
          obtain ⟨⟨hL43, fK44⟩, h⟩ := h
          obtain ⟨hi45, h⟩ := h
          refine qr_zald hx hb hG hL43 fK44 hi45 rfl dX7_deliver_92 ?_
          refine lv_topi (fun v46 ev46 => ?_)
          have h := h v46 ev46
          refine lv_if_eq (tgt := 98) hx hb dX7_deliver_93 (by decide) (fun c47 => ?_) (fun c47 => ?_)
          · have h := h.1 c47
            refine lv_aload_n hx hb dX7_deliver_98 rfl (lv_at hl 1 rfl) ?_
            obtain ⟨q48, eq48, h⟩ := h
            refine qr_get (C := RX7) (T := TX7) (N := 35) (ci := 7) hx hb hts in7 hown hG hL34 fK35 (by decide) rfl 26 (by decide) rfl (hts (.fieldLink RX7 71 "QuayMeshModel" "doneBy" "[I") (List.mem_of_getElem? (i := 7) rfl)) (fun _ h9 => h9) (v := .ref q48) (qs_rf eq48) dX7_deliver_99 ?_
            refine lv_iload_n hx hb dX7_deliver_102 rfl (lv_at hl 0 rfl) ?_
            obtain ⟨⟨hL49, fK50⟩, h⟩ := h
            obtain ⟨hi51, h⟩ := h
            refine qr_iald hx hb hG hL49 fK50 hi51 rfl dX7_deliver_103 ?_
            refine lv_topi (fun v52 ev52 => ?_)
            have h := h v52 ev52
            refine lv_iload_n hx hb dX7_deliver_104 rfl (lv_at hl 2 rfl) ?_
            refine lv_ishr hx hb dX7_deliver_105 ?_
            refine lv_topi (fun v53 ev53 => ?_)
            have h := h v53 ev53
            refine lv_iconst (v := (1 : Int32)) hx hb dX7_deliver_106 (by decide +kernel) ?_
            refine lv_iand hx hb dX7_deliver_107 ?_
            refine lv_topi (fun v54 ev54 => ?_)
            have h := h v54 ev54
            refine lv_iconst (v := (1 : Int32)) hx hb dX7_deliver_108 (by decide +kernel) ?_
            refine lv_icmp_ne (tgt := 119) hx hb dX7_deliver_109 (by decide) (fun c55 => ?_) (fun c55 => ?_)
            · have h := h.1 c55
              refine lv_iload_n hx hb dX7_deliver_119 rfl (lv_at hl 2 rfl) ?_
              refine qc_i hG (va_runS (As := [.int x1]) (rest := []) ⟨hx, hb, hml, hown, hts⟩ (c_X7_isCrane l g _ S33 x1 h) (va_cwS 1 hts gX7_deliver_X7_isCrane rfl rfl rfl (by decide +kernel) ⟨(Nat.le_of_ble_eq_true rfl), (Nat.le_of_ble_eq_true rfl)⟩) ⟨qs_Pc.blind _ _ _ _, hG.pre _⟩ rfl rfl hl.1 rfl (lv_room (Nat.le_of_ble_eq_true rfl)) dX7_deliver_120 ⟨Nat.zero_le _, Nat.zero_le _⟩) (fun v59 S58 H locs h hG => ?_)
              refine lv_if_eq (tgt := 133) hx hb dX7_deliver_123 (by decide) (fun c60 => ?_) (fun c60 => ?_)
              · have h := h.1 c60
                refine lv_aload_n hx hb dX7_deliver_133 rfl (lv_at hl 1 rfl) ?_
                obtain ⟨⟨hL61, fK62⟩, h⟩ := h
                obtain ⟨q63, eq63, h⟩ := h
                refine qr_get (C := RX7) (T := TX7) (N := 35) (ci := 7) hx hb hts in7 hown hG hL61 fK62 (by decide) rfl 34 (by decide) rfl (hts (.fieldLink RX7 92 "QuayMeshModel" "seen" "[I") (List.mem_of_getElem? (i := 8) rfl)) (fun _ h9 => h9) (v := .ref q63) (qs_rf eq63) dX7_deliver_134 ?_
                refine lv_iload_n hx hb dX7_deliver_137 rfl (lv_at hl 2 rfl) ?_
                refine lv_iload_n hx hb dX7_deliver_138 rfl (lv_at hl 0 rfl) ?_
                obtain ⟨⟨hL64, fK65⟩, h⟩ := h
                obtain ⟨hi66, h⟩ := h
                refine qr_iast hx hb hG hL64 fK65 hi66 dX7_deliver_139 (fun H locs hG => ?_)
                refine lv_bipush (v := (6 : Int32)) hx hb dX7_deliver_140 (by decide +kernel) ?_
                exact qe_i hx hb hr hlk hG h (Nat.le_refl _) (Nat.le_refl _) dX7_deliver_142
              · have h := h.2 c60
                refine lv_aload_n hx hb dX7_deliver_126 rfl (lv_at hl 1 rfl) ?_
                refine lv_iload_n hx hb dX7_deliver_127 rfl (lv_at hl 2 rfl) ?_
                refine lv_iload_n hx hb dX7_deliver_128 rfl (lv_at hl 0 rfl) ?_
                obtain ⟨⟨hL69, fK70⟩, h⟩ := h
                refine qc_i hG (va_runV (As := [.int x1, .int v18]) (rest := []) ⟨hx, hb, hml, hown, hts⟩ (c_X7_lifts l g _ S58 a0 x1 v18 h) (cwV 2 hts gX7_deliver_X7_lifts rfl rfl rfl (by decide +kernel) ⟨(Nat.le_of_ble_eq_true rfl), (Nat.le_of_ble_eq_true rfl)⟩) ⟨qs_Pc.blind _ _ _ _, hG.recv hL69 fK70 (by decide) rfl, hG.pre _⟩ rfl rfl hl.1 rfl (lv_room (Nat.le_of_ble_eq_true rfl)) dX7_deliver_129 ⟨Nat.zero_le _, Nat.zero_le _⟩) (fun v72 S71 H locs h hG => ?_)
                exact qe_i hx hb hr hlk hG h (Nat.le_refl _) (Nat.le_refl _) dX7_deliver_132
            · have h := h.2 c55
              refine lv_aload_n hx hb dX7_deliver_112 rfl (lv_at hl 1 rfl) ?_
              refine lv_iload_n hx hb dX7_deliver_113 rfl (lv_at hl 2 rfl) ?_
              refine lv_iload_n hx hb dX7_deliver_114 rfl (lv_at hl 0 rfl) ?_
              refine qc_i hG (va_runV (As := [.int x1, .int v18]) (rest := []) ⟨hx, hb, hml, hown, hts⟩ (c_X7_acknowledges l g _ S33 a0 x1 v18 h) (cwV 2 hts gX7_deliver_X7_acknowledges rfl rfl rfl (by decide +kernel) ⟨(Nat.le_of_ble_eq_true rfl), (Nat.le_of_ble_eq_true rfl)⟩) ⟨qs_Pc.blind _ _ _ _, hG.recv hL34 fK35 (by decide) rfl, hG.pre _⟩ rfl rfl hl.1 rfl (lv_room (Nat.le_of_ble_eq_true rfl)) dX7_deliver_115 ⟨Nat.zero_le _, Nat.zero_le _⟩) (fun v76 S75 H locs h hG => ?_)
              exact qe_i hx hb hr hlk hG h (Nat.le_refl _) (Nat.le_refl _) dX7_deliver_118
          · have h := h.2 c47
            refine lv_iconst (v := (2 : Int32)) hx hb dX7_deliver_96 (by decide +kernel) ?_
            exact qe_i hx hb hr hlk hG h (Nat.le_refl _) (Nat.le_refl _) dX7_deliver_97
        · have h := h.2 c41
          refine lv_aload_n hx hb dX7_deliver_75 rfl (lv_at hl 1 rfl) ?_
          obtain ⟨q77, eq77, h⟩ := h
          refine qr_get (C := RX7) (T := TX7) (N := 35) (ci := 7) hx hb hts in7 hown hG hL34 fK35 (by decide) rfl 31 (by decide) rfl (hts (.fieldLink RX7 83 "QuayMeshModel" "lossDue" "[I") (List.mem_of_getElem? (i := 5) rfl)) (fun _ h9 => h9) (v := .ref q77) (qs_rf eq77) dX7_deliver_76 ?_
          refine lv_iload_n hx hb dX7_deliver_79 rfl (lv_at hl 2 rfl) ?_
          refine lv_dup2_11 hx hb dX7_deliver_80 rfl rfl ?_
          obtain ⟨⟨hL78, fK79⟩, h⟩ := h
          obtain ⟨hi80, h⟩ := h
          refine qr_iald hx hb hG hL78 fK79 hi80 rfl dX7_deliver_81 ?_
          refine lv_topi (fun v81 ev81 => ?_)
          have h := h v81 ev81
          refine lv_iconst (v := (1 : Int32)) hx hb dX7_deliver_82 (by decide +kernel) ?_
          refine lv_isub hx hb dX7_deliver_83 ?_
          refine lv_topi (fun v82 ev82 => ?_)
          have h := h v82 ev82
          obtain ⟨hi83, h⟩ := h
          refine qr_iast hx hb hG hL78 fK79 hi83 dX7_deliver_84 (fun H locs hG => ?_)
          refine lv_iconst (v := (1 : Int32)) hx hb dX7_deliver_85 (by decide +kernel) ?_
          exact qe_i hx hb hr hlk hG h (Nat.le_refl _) (Nat.le_refl _) dX7_deliver_86
      · have h := h.2 c12
        exact b32 (qs_wI S 0 r0 s1) _ _ ls h hG (lv_sub hl [] rfl)
  have hl := lv_entry ([.ref a0z, .int x1z]) (n := 3) (Nat.le_of_ble_eq_true rfl)
  rw [lg_entry_eq]
  generalize (lg_sl ([.ref a0z, .int x1z]) ++ List.replicate (3 - (lg_sl ([.ref a0z, .int x1z])).length) Slot.unset).toArray = ls at hl ⊢
  have hl : lv_has ls 3 [(0, .ref a0z), (1, .int x1z)] := hl
  unfold wp_X7_deliver at h
  refine lv_aload_n hx hb dX7_deliver_0 rfl (lv_at hl 0 rfl) ?_
  refine lv_iload_n hx hb dX7_deliver_1 rfl (lv_at hl 1 rfl) ?_
  refine qc_i hG (va_runS (As := [.int x1z]) (rest := [.ref a0z]) ⟨hx, hb, hml, hown, hts⟩ (c_X7_isWorker l g _ SA x1z h) (va_cwS 1 hts gX7_deliver_X7_isWorker rfl rfl rfl (by decide +kernel) ⟨(Nat.le_of_ble_eq_true rfl), (Nat.le_of_ble_eq_true rfl)⟩) ⟨qs_Pc.blind _ _ _ _, hG.pre _⟩ rfl rfl hl.1 rfl (lv_room (Nat.le_of_ble_eq_true rfl)) dX7_deliver_2 ⟨Nat.zero_le _, Nat.zero_le _⟩) (fun v87 S86 H locs h hG => ?_)
  refine lv_if_eq (tgt := 12) hx hb dX7_deliver_5 (by decide) (fun c88 => ?_) (fun c88 => ?_)
  · have h := h.1 c88
    refine lv_iconst (v := (1 : Int32)) hx hb dX7_deliver_12 (by decide +kernel) ?_
    exact b13 S86 a0z x1z a0z (1 : Int32) _ _ ls h hG (lv_sub hl [0, 1] rfl)
  · have h := h.2 c88
    refine lv_iconst (v := (0 : Int32)) hx hb dX7_deliver_8 (by decide +kernel) ?_
    refine lv_goto (tgt := 13) hx hb dX7_deliver_9 (by decide) ?_
    exact b13 S86 a0z x1z a0z (0 : Int32) _ _ ls h hG (lv_sub hl [0, 1] rfl)

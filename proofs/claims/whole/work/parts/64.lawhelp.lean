/-! ===== the law's helpers: one call of the class, its exceptions caught and counted ===== -/
set_option maxHeartbeats 4000000 in
set_option maxRecDepth 100000 in
theorem c_L_berth (l : Launch) (hl9 : l.stackTraces = false) (g : qs_G) (o : Nat) (f : Nat → Int64) (sz : Nat) (SA : qs_S) (x6 : Nat) (p0 : Int32) (p1 : Int32) {mc ms : Nat} {post : Int32 → qs_S → (Nat → Int64) → Prop} (hx6 : x6 ∈ qs_L SA ∧ qs_K SA x6 = 6) (h : wp_X6_berth g.2.2.2.2.2.2.1 g.2.2.2.2.2.2.2 mc ms (fun (v : Int32) (S : qs_S) => post 0 S (vp_updL f (0 : Int32).toNatClampNeg v.toInt64)) (fun (E : String) (S : qs_S) => (E = "java/lang/IndexOutOfBoundsException" ∧ post 1 S f) ∨ (E = "java/lang/IllegalArgumentException" ∧ post 2 S f) ∨ (E = "java/lang/IllegalStateException" ∧ post 3 S f)) SA x6 p0 p1) : vx_Met l yL_berth wsL_berth ({ frames := 8, cells := mc, slots := ms, locals := 213 } : Room) (qs_Pc (ql_g g o f) sz SA [.ref x6, .int p0, .int p1, .ref o]) (ql_Qi g o (qs_F (ql_g g o f) SA sz) post) (qs_X (ql_g g o f) (qs_F (ql_g g o f) SA sz) (fun _ _ => False)) mc ms (qs_F (ql_g g o f) SA sz) := by
  refine vx_ofWH (cc := cL_berth) (maxL := 5) (ret := (some .int)) (hh := [(0, 10, 13, 13), (0, 10, 17, 15), (0, 10, 21, 17)]) (by decide +kernel) rfl ?_
  intro p e s m args below meth c s₁ B hml hv
  obtain ⟨rfl, hsz, hG⟩ := qs_Gd.start hv
  subst hsz
  have hx := B.exec
  have hb := B.bytes
  have hr := B.returns
  have hts := atoms_spec (ws := wsL_berth) B.pre
  have hown : s.vm.findClass RL = some m.cls := findClass_of_methodNamed B.named
  have hlk := B.notSynchronized
  have htab : c.exceptionTable.toList = tableOf [(0, 10, 13, 13), (0, 10, 17, 15), (0, 10, 21, 17)] := vx_table (x := yL_berth) B (hts _ List.mem_cons_self)
  have hmR : mc ≤ (headSpec wsL_berth ({ frames := 8, cells := mc, slots := ms, locals := 213 } : Room)).room.cells := Nat.le_refl _
  have hsR : ms ≤ (headSpec wsL_berth ({ frames := 8, cells := mc, slots := ms, locals := 213 } : Room)).room.slots := Nat.le_refl _
  have hk13 : (Cond.classLink RL 13 "java/lang/IndexOutOfBoundsException").before ([.ref x6, .int p0, .int p1, .ref o] : List Value).toArray s = true := hts (.classLink RL 13 "java/lang/IndexOutOfBoundsException") (List.mem_of_getElem? (i := 1) rfl)
  have hk15 : (Cond.classLink RL 15 "java/lang/IllegalArgumentException").before ([.ref x6, .int p0, .int p1, .ref o] : List Value).toArray s = true := hts (.classLink RL 15 "java/lang/IllegalArgumentException") (List.mem_of_getElem? (i := 2) rfl)
  have hk17 : (Cond.classLink RL 17 "java/lang/IllegalStateException").before ([.ref x6, .int p0, .int p1, .ref o] : List Value).toArray s = true := hts (.classLink RL 17 "java/lang/IllegalStateException") (List.mem_of_getElem? (i := 3) rfl)
  have hl := lv_entry ([.ref x6, .int p0, .int p1, .ref o]) (n := 5) (Nat.le_of_ble_eq_true rfl)
  rw [lg_entry_eq]
  generalize (lg_sl ([.ref x6, .int p0, .int p1, .ref o]) ++ List.replicate (5 - (lg_sl ([.ref x6, .int p0, .int p1, .ref o])).length) Slot.unset).toArray = ls at hl ⊢
  have hl : lv_has ls 5 [(0, .ref x6), (1, .int p0), (2, .int p1), (3, .ref o)] := hl
  refine lv_aload_n hx hb dL_berth_0 rfl (lv_at hl 3 rfl) ?_
  refine lv_iconst (v := 0) hx hb dL_berth_1 (by decide) ?_
  refine lv_aload_n hx hb dL_berth_2 rfl (lv_at hl 0 rfl) ?_
  refine lv_iload_n hx hb dL_berth_3 rfl (lv_at hl 1 rfl) ?_
  refine lv_iload_n hx hb dL_berth_4 rfl (lv_at hl 2 rfl) ?_
  refine qx_i hG (vx_runV (As := [.int p0, .int p1]) (rest := [.int 0, .ref o]) ⟨hx, hb, hml, hown, hts⟩ (c_X6_berth l hl9 (ql_g g o f) _ SA x6 p0 p1 h) (cwV 2 hts gL_berth_X6_berth rfl rfl rfl (by decide +kernel) ⟨(Nat.le_of_ble_eq_true rfl), (Nat.le_of_ble_eq_true rfl)⟩) ⟨qs_Pc.blind _ _ _ _, hG.recv hx6.1 hx6.2 (by decide) rfl, hG.pre _⟩ rfl rfl hl.1 rfl (lv_room (Nat.le_of_ble_eq_true rfl)) dL_berth_5 ⟨by rw [Nat.zero_add]; exact hmR, by rw [Nat.zero_add]; exact hsR⟩) (fun E S1 H locs ce q9 hp hG h1 h2 h3 => ?_) (fun v S1 H locs h hG => ?_)
  · rcases hp with ⟨rfl, hp⟩ | ⟨rfl, hp⟩ | ⟨rfl, hp⟩
    · skip
      refine vx_catch (own := RL) (name := "java/lang/IndexOutOfBoundsException") hown [] ⟨0, 10, 13, 13⟩ [⟨0, 10, 17, 15⟩, ⟨0, 10, 21, 17⟩] (by rw [htab]; rfl) (fun z hz => absurd hz List.not_mem_nil) (by rfl) (by decide) hk13 (hG.cast (q := ("java/lang/IndexOutOfBoundsException", "java/lang/IndexOutOfBoundsException")) (by decide)) h1 h2 h3 ?_
      refine lv_astore (lv' := [(4, .ref q9), (0, .ref x6), (1, .int p0), (2, .int p1), (3, .ref o)]) hx hb dL_berth_13 hl (by decide) rfl (fun ls hl => ?_)
      refine lv_iconst (v := 1) hx hb dL_berth_15 (by decide) ?_
      refine vx_ret ?_
      exact ql_e hx hb hr hlk hG hp (by rw [Nat.zero_add]; exact Nat.le_refl _) (by rw [Nat.zero_add]; exact Nat.le_refl _) dL_berth_16
    · skip
      refine vx_catch (own := RL) (name := "java/lang/IllegalArgumentException") hown [⟨0, 10, 13, 13⟩] ⟨0, 10, 17, 15⟩ [⟨0, 10, 21, 17⟩] (by rw [htab]; rfl) (fun z hz => (List.mem_cons.mp hz).elim (fun e => by subst e; exact Or.inr ⟨by decide, _, hk13, hG.nocast (q := ("java/lang/IllegalArgumentException", "java/lang/IndexOutOfBoundsException")) (by decide)⟩) (fun hz => absurd hz List.not_mem_nil)) (by rfl) (by decide) hk15 (hG.cast (q := ("java/lang/IllegalArgumentException", "java/lang/IllegalArgumentException")) (by decide)) h1 h2 h3 ?_
      refine lv_astore (lv' := [(4, .ref q9), (0, .ref x6), (1, .int p0), (2, .int p1), (3, .ref o)]) hx hb dL_berth_17 hl (by decide) rfl (fun ls hl => ?_)
      refine lv_iconst (v := 2) hx hb dL_berth_19 (by decide) ?_
      refine vx_ret ?_
      exact ql_e hx hb hr hlk hG hp (by rw [Nat.zero_add]; exact Nat.le_refl _) (by rw [Nat.zero_add]; exact Nat.le_refl _) dL_berth_20
    · skip
      refine vx_catch (own := RL) (name := "java/lang/IllegalStateException") hown [⟨0, 10, 13, 13⟩, ⟨0, 10, 17, 15⟩] ⟨0, 10, 21, 17⟩ [] (by rw [htab]; rfl) (fun z hz => (List.mem_cons.mp hz).elim (fun e => by subst e; exact Or.inr ⟨by decide, _, hk13, hG.nocast (q := ("java/lang/IllegalStateException", "java/lang/IndexOutOfBoundsException")) (by decide)⟩) (fun hz => (List.mem_cons.mp hz).elim (fun e => by subst e; exact Or.inr ⟨by decide, _, hk15, hG.nocast (q := ("java/lang/IllegalStateException", "java/lang/IllegalArgumentException")) (by decide)⟩) (fun hz => absurd hz List.not_mem_nil))) (by rfl) (by decide) hk17 (hG.cast (q := ("java/lang/IllegalStateException", "java/lang/IllegalStateException")) (by decide)) h1 h2 h3 ?_
      refine lv_astore (lv' := [(4, .ref q9), (0, .ref x6), (1, .int p0), (2, .int p1), (3, .ref o)]) hx hb dL_berth_21 hl (by decide) rfl (fun ls hl => ?_)
      refine lv_iconst (v := 3) hx hb dL_berth_23 (by decide) ?_
      refine vx_ret ?_
      exact ql_e hx hb hr hlk hG hp (by rw [Nat.zero_add]; exact Nat.le_refl _) (by rw [Nat.zero_add]; exact Nat.le_refl _) dL_berth_24
  · refine lv_i2l hx hb dL_berth_8 rfl ?_
    refine ql_last hx hb hG dL_berth_9 (fun H locs hG => ?_)
    refine lv_goto (tgt := 25) hx hb dL_berth_10 (by decide) ?_
    refine lv_iconst (v := 0) hx hb dL_berth_25 (by decide) ?_
    refine vx_ret ?_
    exact ql_e hx hb hr hlk hG h (by rw [Nat.zero_add]; exact Nat.le_refl _) (by rw [Nat.zero_add]; exact Nat.le_refl _) dL_berth_26
set_option maxHeartbeats 4000000 in
set_option maxRecDepth 100000 in
theorem c_L_box (l : Launch) (hl9 : l.stackTraces = false) (g : qs_G) (o : Nat) (f : Nat → Int64) (sz : Nat) (SA : qs_S) (x6 : Nat) (p0 : Int32) (p1 : Int32) {mc ms : Nat} {post : Int32 → qs_S → (Nat → Int64) → Prop} (hx6 : x6 ∈ qs_L SA ∧ qs_K SA x6 = 6) (h : wp_X6_box g.2.2.2.2.2.2.1 g.2.2.2.2.2.2.2 mc ms (fun (v : Int32) (S : qs_S) => post 0 S (vp_updL f (0 : Int32).toNatClampNeg v.toInt64)) (fun (E : String) (S : qs_S) => (E = "java/lang/IndexOutOfBoundsException" ∧ post 1 S f) ∨ (E = "java/lang/IllegalArgumentException" ∧ post 2 S f) ∨ (E = "java/lang/IllegalStateException" ∧ post 3 S f)) SA x6 p0 p1) : vx_Met l yL_box wsL_box ({ frames := 9, cells := mc, slots := ms, locals := 214 } : Room) (qs_Pc (ql_g g o f) sz SA [.ref x6, .int p0, .int p1, .ref o]) (ql_Qi g o (qs_F (ql_g g o f) SA sz) post) (qs_X (ql_g g o f) (qs_F (ql_g g o f) SA sz) (fun _ _ => False)) mc ms (qs_F (ql_g g o f) SA sz) := by
  refine vx_ofWH (cc := cL_box) (maxL := 5) (ret := (some .int)) (hh := [(0, 10, 13, 13), (0, 10, 17, 15), (0, 10, 21, 17)]) (by decide +kernel) rfl ?_
  intro p e s m args below meth c s₁ B hml hv
  obtain ⟨rfl, hsz, hG⟩ := qs_Gd.start hv
  subst hsz
  have hx := B.exec
  have hb := B.bytes
  have hr := B.returns
  have hts := atoms_spec (ws := wsL_box) B.pre
  have hown : s.vm.findClass RL = some m.cls := findClass_of_methodNamed B.named
  have hlk := B.notSynchronized
  have htab : c.exceptionTable.toList = tableOf [(0, 10, 13, 13), (0, 10, 17, 15), (0, 10, 21, 17)] := vx_table (x := yL_box) B (hts _ List.mem_cons_self)
  have hmR : mc ≤ (headSpec wsL_box ({ frames := 9, cells := mc, slots := ms, locals := 214 } : Room)).room.cells := Nat.le_refl _
  have hsR : ms ≤ (headSpec wsL_box ({ frames := 9, cells := mc, slots := ms, locals := 214 } : Room)).room.slots := Nat.le_refl _
  have hk13 : (Cond.classLink RL 13 "java/lang/IndexOutOfBoundsException").before ([.ref x6, .int p0, .int p1, .ref o] : List Value).toArray s = true := hts (.classLink RL 13 "java/lang/IndexOutOfBoundsException") (List.mem_of_getElem? (i := 1) rfl)
  have hk15 : (Cond.classLink RL 15 "java/lang/IllegalArgumentException").before ([.ref x6, .int p0, .int p1, .ref o] : List Value).toArray s = true := hts (.classLink RL 15 "java/lang/IllegalArgumentException") (List.mem_of_getElem? (i := 2) rfl)
  have hk17 : (Cond.classLink RL 17 "java/lang/IllegalStateException").before ([.ref x6, .int p0, .int p1, .ref o] : List Value).toArray s = true := hts (.classLink RL 17 "java/lang/IllegalStateException") (List.mem_of_getElem? (i := 3) rfl)
  have hl := lv_entry ([.ref x6, .int p0, .int p1, .ref o]) (n := 5) (Nat.le_of_ble_eq_true rfl)
  rw [lg_entry_eq]
  generalize (lg_sl ([.ref x6, .int p0, .int p1, .ref o]) ++ List.replicate (5 - (lg_sl ([.ref x6, .int p0, .int p1, .ref o])).length) Slot.unset).toArray = ls at hl ⊢
  have hl : lv_has ls 5 [(0, .ref x6), (1, .int p0), (2, .int p1), (3, .ref o)] := hl
  refine lv_aload_n hx hb dL_box_0 rfl (lv_at hl 3 rfl) ?_
  refine lv_iconst (v := 0) hx hb dL_box_1 (by decide) ?_
  refine lv_aload_n hx hb dL_box_2 rfl (lv_at hl 0 rfl) ?_
  refine lv_iload_n hx hb dL_box_3 rfl (lv_at hl 1 rfl) ?_
  refine lv_iload_n hx hb dL_box_4 rfl (lv_at hl 2 rfl) ?_
  refine qx_i hG (vx_runV (As := [.int p0, .int p1]) (rest := [.int 0, .ref o]) ⟨hx, hb, hml, hown, hts⟩ (c_X6_box l hl9 (ql_g g o f) _ SA x6 p0 p1 h) (cwV 2 hts gL_box_X6_box rfl rfl rfl (by decide +kernel) ⟨(Nat.le_of_ble_eq_true rfl), (Nat.le_of_ble_eq_true rfl)⟩) ⟨qs_Pc.blind _ _ _ _, hG.recv hx6.1 hx6.2 (by decide) rfl, hG.pre _⟩ rfl rfl hl.1 rfl (lv_room (Nat.le_of_ble_eq_true rfl)) dL_box_5 ⟨by rw [Nat.zero_add]; exact hmR, by rw [Nat.zero_add]; exact hsR⟩) (fun E S1 H locs ce q9 hp hG h1 h2 h3 => ?_) (fun v S1 H locs h hG => ?_)
  · rcases hp with ⟨rfl, hp⟩ | ⟨rfl, hp⟩ | ⟨rfl, hp⟩
    · skip
      refine vx_catch (own := RL) (name := "java/lang/IndexOutOfBoundsException") hown [] ⟨0, 10, 13, 13⟩ [⟨0, 10, 17, 15⟩, ⟨0, 10, 21, 17⟩] (by rw [htab]; rfl) (fun z hz => absurd hz List.not_mem_nil) (by rfl) (by decide) hk13 (hG.cast (q := ("java/lang/IndexOutOfBoundsException", "java/lang/IndexOutOfBoundsException")) (by decide)) h1 h2 h3 ?_
      refine lv_astore (lv' := [(4, .ref q9), (0, .ref x6), (1, .int p0), (2, .int p1), (3, .ref o)]) hx hb dL_box_13 hl (by decide) rfl (fun ls hl => ?_)
      refine lv_iconst (v := 1) hx hb dL_box_15 (by decide) ?_
      refine vx_ret ?_
      exact ql_e hx hb hr hlk hG hp (by rw [Nat.zero_add]; exact Nat.le_refl _) (by rw [Nat.zero_add]; exact Nat.le_refl _) dL_box_16
    · skip
      refine vx_catch (own := RL) (name := "java/lang/IllegalArgumentException") hown [⟨0, 10, 13, 13⟩] ⟨0, 10, 17, 15⟩ [⟨0, 10, 21, 17⟩] (by rw [htab]; rfl) (fun z hz => (List.mem_cons.mp hz).elim (fun e => by subst e; exact Or.inr ⟨by decide, _, hk13, hG.nocast (q := ("java/lang/IllegalArgumentException", "java/lang/IndexOutOfBoundsException")) (by decide)⟩) (fun hz => absurd hz List.not_mem_nil)) (by rfl) (by decide) hk15 (hG.cast (q := ("java/lang/IllegalArgumentException", "java/lang/IllegalArgumentException")) (by decide)) h1 h2 h3 ?_
      refine lv_astore (lv' := [(4, .ref q9), (0, .ref x6), (1, .int p0), (2, .int p1), (3, .ref o)]) hx hb dL_box_17 hl (by decide) rfl (fun ls hl => ?_)
      refine lv_iconst (v := 2) hx hb dL_box_19 (by decide) ?_
      refine vx_ret ?_
      exact ql_e hx hb hr hlk hG hp (by rw [Nat.zero_add]; exact Nat.le_refl _) (by rw [Nat.zero_add]; exact Nat.le_refl _) dL_box_20
    · skip
      refine vx_catch (own := RL) (name := "java/lang/IllegalStateException") hown [⟨0, 10, 13, 13⟩, ⟨0, 10, 17, 15⟩] ⟨0, 10, 21, 17⟩ [] (by rw [htab]; rfl) (fun z hz => (List.mem_cons.mp hz).elim (fun e => by subst e; exact Or.inr ⟨by decide, _, hk13, hG.nocast (q := ("java/lang/IllegalStateException", "java/lang/IndexOutOfBoundsException")) (by decide)⟩) (fun hz => (List.mem_cons.mp hz).elim (fun e => by subst e; exact Or.inr ⟨by decide, _, hk15, hG.nocast (q := ("java/lang/IllegalStateException", "java/lang/IllegalArgumentException")) (by decide)⟩) (fun hz => absurd hz List.not_mem_nil))) (by rfl) (by decide) hk17 (hG.cast (q := ("java/lang/IllegalStateException", "java/lang/IllegalStateException")) (by decide)) h1 h2 h3 ?_
      refine lv_astore (lv' := [(4, .ref q9), (0, .ref x6), (1, .int p0), (2, .int p1), (3, .ref o)]) hx hb dL_box_21 hl (by decide) rfl (fun ls hl => ?_)
      refine lv_iconst (v := 3) hx hb dL_box_23 (by decide) ?_
      refine vx_ret ?_
      exact ql_e hx hb hr hlk hG hp (by rw [Nat.zero_add]; exact Nat.le_refl _) (by rw [Nat.zero_add]; exact Nat.le_refl _) dL_box_24
  · refine lv_i2l hx hb dL_box_8 rfl ?_
    refine ql_last hx hb hG dL_box_9 (fun H locs hG => ?_)
    refine lv_goto (tgt := 25) hx hb dL_box_10 (by decide) ?_
    refine lv_iconst (v := 0) hx hb dL_box_25 (by decide) ?_
    refine vx_ret ?_
    exact ql_e hx hb hr hlk hG h (by rw [Nat.zero_add]; exact Nat.le_refl _) (by rw [Nat.zero_add]; exact Nat.le_refl _) dL_box_26
set_option maxHeartbeats 4000000 in
set_option maxRecDepth 100000 in
theorem c_L_leave (l : Launch) (hl9 : l.stackTraces = false) (g : qs_G) (o : Nat) (f : Nat → Int64) (sz : Nat) (SA : qs_S) (x6 : Nat) (p0 : Int32) {mc ms : Nat} {post : Int32 → qs_S → (Nat → Int64) → Prop} (hx6 : x6 ∈ qs_L SA ∧ qs_K SA x6 = 6) (h : wp_X6_leave g.2.2.2.2.2.2.1 g.2.2.2.2.2.2.2 mc ms (fun (v : Int32) (S : qs_S) => post 0 S (vp_updL f (0 : Int32).toNatClampNeg v.toInt64)) (fun (E : String) (S : qs_S) => (E = "java/lang/IndexOutOfBoundsException" ∧ post 1 S f) ∨ (E = "java/lang/IllegalStateException" ∧ post 2 S f)) SA x6 p0) : vx_Met l yL_leave wsL_leave ({ frames := 9, cells := mc, slots := ms, locals := 158 } : Room) (qs_Pc (ql_g g o f) sz SA [.ref x6, .int p0, .ref o]) (ql_Qi g o (qs_F (ql_g g o f) SA sz) post) (qs_X (ql_g g o f) (qs_F (ql_g g o f) SA sz) (fun _ _ => False)) mc ms (qs_F (ql_g g o f) SA sz) := by
  refine vx_ofWH (cc := cL_leave) (maxL := 4) (ret := (some .int)) (hh := [(0, 9, 12, 13), (0, 9, 15, 17)]) (by decide +kernel) rfl ?_
  intro p e s m args below meth c s₁ B hml hv
  obtain ⟨rfl, hsz, hG⟩ := qs_Gd.start hv
  subst hsz
  have hx := B.exec
  have hb := B.bytes
  have hr := B.returns
  have hts := atoms_spec (ws := wsL_leave) B.pre
  have hown : s.vm.findClass RL = some m.cls := findClass_of_methodNamed B.named
  have hlk := B.notSynchronized
  have htab : c.exceptionTable.toList = tableOf [(0, 9, 12, 13), (0, 9, 15, 17)] := vx_table (x := yL_leave) B (hts _ List.mem_cons_self)
  have hmR : mc ≤ (headSpec wsL_leave ({ frames := 9, cells := mc, slots := ms, locals := 158 } : Room)).room.cells := Nat.le_refl _
  have hsR : ms ≤ (headSpec wsL_leave ({ frames := 9, cells := mc, slots := ms, locals := 158 } : Room)).room.slots := Nat.le_refl _
  have hk13 : (Cond.classLink RL 13 "java/lang/IndexOutOfBoundsException").before ([.ref x6, .int p0, .ref o] : List Value).toArray s = true := hts (.classLink RL 13 "java/lang/IndexOutOfBoundsException") (List.mem_of_getElem? (i := 1) rfl)
  have hk17 : (Cond.classLink RL 17 "java/lang/IllegalStateException").before ([.ref x6, .int p0, .ref o] : List Value).toArray s = true := hts (.classLink RL 17 "java/lang/IllegalStateException") (List.mem_of_getElem? (i := 2) rfl)
  have hl := lv_entry ([.ref x6, .int p0, .ref o]) (n := 4) (Nat.le_of_ble_eq_true rfl)
  rw [lg_entry_eq]
  generalize (lg_sl ([.ref x6, .int p0, .ref o]) ++ List.replicate (4 - (lg_sl ([.ref x6, .int p0, .ref o])).length) Slot.unset).toArray = ls at hl ⊢
  have hl : lv_has ls 4 [(0, .ref x6), (1, .int p0), (2, .ref o)] := hl
  refine lv_aload_n hx hb dL_leave_0 rfl (lv_at hl 2 rfl) ?_
  refine lv_iconst (v := 0) hx hb dL_leave_1 (by decide) ?_
  refine lv_aload_n hx hb dL_leave_2 rfl (lv_at hl 0 rfl) ?_
  refine lv_iload_n hx hb dL_leave_3 rfl (lv_at hl 1 rfl) ?_
  refine qx_i hG (vx_runV (As := [.int p0]) (rest := [.int 0, .ref o]) ⟨hx, hb, hml, hown, hts⟩ (c_X6_leave l hl9 (ql_g g o f) _ SA x6 p0 h) (cwV 1 hts gL_leave_X6_leave rfl rfl rfl (by decide +kernel) ⟨(Nat.le_of_ble_eq_true rfl), (Nat.le_of_ble_eq_true rfl)⟩) ⟨qs_Pc.blind _ _ _ _, hG.recv hx6.1 hx6.2 (by decide) rfl, hG.pre _⟩ rfl rfl hl.1 rfl (lv_room (Nat.le_of_ble_eq_true rfl)) dL_leave_4 ⟨by rw [Nat.zero_add]; exact hmR, by rw [Nat.zero_add]; exact hsR⟩) (fun E S1 H locs ce q9 hp hG h1 h2 h3 => ?_) (fun v S1 H locs h hG => ?_)
  · rcases hp with ⟨rfl, hp⟩ | ⟨rfl, hp⟩
    · skip
      refine vx_catch (own := RL) (name := "java/lang/IndexOutOfBoundsException") hown [] ⟨0, 9, 12, 13⟩ [⟨0, 9, 15, 17⟩] (by rw [htab]; rfl) (fun z hz => absurd hz List.not_mem_nil) (by rfl) (by decide) hk13 (hG.cast (q := ("java/lang/IndexOutOfBoundsException", "java/lang/IndexOutOfBoundsException")) (by decide)) h1 h2 h3 ?_
      refine lv_astore_n (lv' := [(3, .ref q9), (0, .ref x6), (1, .int p0), (2, .ref o)]) hx hb dL_leave_12 rfl hl (by decide) rfl (fun ls hl => ?_)
      refine lv_iconst (v := 1) hx hb dL_leave_13 (by decide) ?_
      refine vx_ret ?_
      exact ql_e hx hb hr hlk hG hp (by rw [Nat.zero_add]; exact Nat.le_refl _) (by rw [Nat.zero_add]; exact Nat.le_refl _) dL_leave_14
    · skip
      refine vx_catch (own := RL) (name := "java/lang/IllegalStateException") hown [⟨0, 9, 12, 13⟩] ⟨0, 9, 15, 17⟩ [] (by rw [htab]; rfl) (fun z hz => (List.mem_cons.mp hz).elim (fun e => by subst e; exact Or.inr ⟨by decide, _, hk13, hG.nocast (q := ("java/lang/IllegalStateException", "java/lang/IndexOutOfBoundsException")) (by decide)⟩) (fun hz => absurd hz List.not_mem_nil)) (by rfl) (by decide) hk17 (hG.cast (q := ("java/lang/IllegalStateException", "java/lang/IllegalStateException")) (by decide)) h1 h2 h3 ?_
      refine lv_astore_n (lv' := [(3, .ref q9), (0, .ref x6), (1, .int p0), (2, .ref o)]) hx hb dL_leave_15 rfl hl (by decide) rfl (fun ls hl => ?_)
      refine lv_iconst (v := 2) hx hb dL_leave_16 (by decide) ?_
      refine vx_ret ?_
      exact ql_e hx hb hr hlk hG hp (by rw [Nat.zero_add]; exact Nat.le_refl _) (by rw [Nat.zero_add]; exact Nat.le_refl _) dL_leave_17
  · refine lv_i2l hx hb dL_leave_7 rfl ?_
    refine ql_last hx hb hG dL_leave_8 (fun H locs hG => ?_)
    refine lv_goto (tgt := 18) hx hb dL_leave_9 (by decide) ?_
    refine lv_iconst (v := 0) hx hb dL_leave_18 (by decide) ?_
    refine vx_ret ?_
    exact ql_e hx hb hr hlk hG h (by rw [Nat.zero_add]; exact Nat.le_refl _) (by rw [Nat.zero_add]; exact Nat.le_refl _) dL_leave_19
set_option maxHeartbeats 4000000 in
set_option maxRecDepth 100000 in
theorem c_L_send (l : Launch) (hl9 : l.stackTraces = false) (g : qs_G) (o : Nat) (f : Nat → Int64) (sz : Nat) (SA : qs_S) (x6 : Nat) (p0 : Int32) (p1 : Int32) (p2 : Int32) (p3 : Int32) {mc ms : Nat} {post : Int32 → qs_S → (Nat → Int64) → Prop} (hx6 : x6 ∈ qs_L SA ∧ qs_K SA x6 = 6) (h : wp_X6_send g.2.2.2.2.2.2.1 g.2.2.2.2.2.2.2 mc ms (fun (v : Int32) (S : qs_S) => post 0 S (vp_updL f (0 : Int32).toNatClampNeg v.toInt64)) (fun (E : String) (S : qs_S) => (E = "java/lang/IllegalArgumentException" ∧ post 1 S f) ∨ (E = "java/lang/IndexOutOfBoundsException" ∧ post 2 S f) ∨ (E = "java/lang/IllegalStateException" ∧ post 3 S f)) SA x6 p0 p1 p2 p3) : vx_Met l yL_send wsL_send ({ frames := 11, cells := mc, slots := ms, locals := 218 } : Room) (qs_Pc (ql_g g o f) sz SA [.ref x6, .int p0, .int p1, .int p2, .int p3, .ref o]) (ql_Qi g o (qs_F (ql_g g o f) SA sz) post) (qs_X (ql_g g o f) (qs_F (ql_g g o f) SA sz) (fun _ _ => False)) mc ms (qs_F (ql_g g o f) SA sz) := by
  refine vx_ofWH (cc := cL_send) (maxL := 7) (ret := (some .int)) (hh := [(0, 14, 17, 15), (0, 14, 21, 13), (0, 14, 25, 17)]) (by decide +kernel) rfl ?_
  intro p e s m args below meth c s₁ B hml hv
  obtain ⟨rfl, hsz, hG⟩ := qs_Gd.start hv
  subst hsz
  have hx := B.exec
  have hb := B.bytes
  have hr := B.returns
  have hts := atoms_spec (ws := wsL_send) B.pre
  have hown : s.vm.findClass RL = some m.cls := findClass_of_methodNamed B.named
  have hlk := B.notSynchronized
  have htab : c.exceptionTable.toList = tableOf [(0, 14, 17, 15), (0, 14, 21, 13), (0, 14, 25, 17)] := vx_table (x := yL_send) B (hts _ List.mem_cons_self)
  have hmR : mc ≤ (headSpec wsL_send ({ frames := 11, cells := mc, slots := ms, locals := 218 } : Room)).room.cells := Nat.le_refl _
  have hsR : ms ≤ (headSpec wsL_send ({ frames := 11, cells := mc, slots := ms, locals := 218 } : Room)).room.slots := Nat.le_refl _
  have hk15 : (Cond.classLink RL 15 "java/lang/IllegalArgumentException").before ([.ref x6, .int p0, .int p1, .int p2, .int p3, .ref o] : List Value).toArray s = true := hts (.classLink RL 15 "java/lang/IllegalArgumentException") (List.mem_of_getElem? (i := 1) rfl)
  have hk13 : (Cond.classLink RL 13 "java/lang/IndexOutOfBoundsException").before ([.ref x6, .int p0, .int p1, .int p2, .int p3, .ref o] : List Value).toArray s = true := hts (.classLink RL 13 "java/lang/IndexOutOfBoundsException") (List.mem_of_getElem? (i := 2) rfl)
  have hk17 : (Cond.classLink RL 17 "java/lang/IllegalStateException").before ([.ref x6, .int p0, .int p1, .int p2, .int p3, .ref o] : List Value).toArray s = true := hts (.classLink RL 17 "java/lang/IllegalStateException") (List.mem_of_getElem? (i := 3) rfl)
  have hl := lv_entry ([.ref x6, .int p0, .int p1, .int p2, .int p3, .ref o]) (n := 7) (Nat.le_of_ble_eq_true rfl)
  rw [lg_entry_eq]
  generalize (lg_sl ([.ref x6, .int p0, .int p1, .int p2, .int p3, .ref o]) ++ List.replicate (7 - (lg_sl ([.ref x6, .int p0, .int p1, .int p2, .int p3, .ref o])).length) Slot.unset).toArray = ls at hl ⊢
  have hl : lv_has ls 7 [(0, .ref x6), (1, .int p0), (2, .int p1), (3, .int p2), (4, .int p3), (5, .ref o)] := hl
  refine lv_aload hx hb dL_send_0 (lv_at hl 5 rfl) ?_
  refine lv_iconst (v := 0) hx hb dL_send_2 (by decide) ?_
  refine lv_aload_n hx hb dL_send_3 rfl (lv_at hl 0 rfl) ?_
  refine lv_iload_n hx hb dL_send_4 rfl (lv_at hl 1 rfl) ?_
  refine lv_iload_n hx hb dL_send_5 rfl (lv_at hl 2 rfl) ?_
  refine lv_iload_n hx hb dL_send_6 rfl (lv_at hl 3 rfl) ?_
  refine lv_iload hx hb dL_send_7 (lv_at hl 4 rfl) ?_
  refine qx_i hG (vx_runV (As := [.int p0, .int p1, .int p2, .int p3]) (rest := [.int 0, .ref o]) ⟨hx, hb, hml, hown, hts⟩ (c_X6_send l hl9 (ql_g g o f) _ SA x6 p0 p1 p2 p3 h) (cwV 4 hts gL_send_X6_send rfl rfl rfl (by decide +kernel) ⟨(Nat.le_of_ble_eq_true rfl), (Nat.le_of_ble_eq_true rfl)⟩) ⟨qs_Pc.blind _ _ _ _, hG.recv hx6.1 hx6.2 (by decide) rfl, hG.pre _⟩ rfl rfl hl.1 rfl (lv_room (Nat.le_of_ble_eq_true rfl)) dL_send_9 ⟨by rw [Nat.zero_add]; exact hmR, by rw [Nat.zero_add]; exact hsR⟩) (fun E S1 H locs ce q9 hp hG h1 h2 h3 => ?_) (fun v S1 H locs h hG => ?_)
  · rcases hp with ⟨rfl, hp⟩ | ⟨rfl, hp⟩ | ⟨rfl, hp⟩
    · skip
      refine vx_catch (own := RL) (name := "java/lang/IllegalArgumentException") hown [] ⟨0, 14, 17, 15⟩ [⟨0, 14, 21, 13⟩, ⟨0, 14, 25, 17⟩] (by rw [htab]; rfl) (fun z hz => absurd hz List.not_mem_nil) (by rfl) (by decide) hk15 (hG.cast (q := ("java/lang/IllegalArgumentException", "java/lang/IllegalArgumentException")) (by decide)) h1 h2 h3 ?_
      refine lv_astore (lv' := [(6, .ref q9), (0, .ref x6), (1, .int p0), (2, .int p1), (3, .int p2), (4, .int p3), (5, .ref o)]) hx hb dL_send_17 hl (by decide) rfl (fun ls hl => ?_)
      refine lv_iconst (v := 1) hx hb dL_send_19 (by decide) ?_
      refine vx_ret ?_
      exact ql_e hx hb hr hlk hG hp (by rw [Nat.zero_add]; exact Nat.le_refl _) (by rw [Nat.zero_add]; exact Nat.le_refl _) dL_send_20
    · skip
      refine vx_catch (own := RL) (name := "java/lang/IndexOutOfBoundsException") hown [⟨0, 14, 17, 15⟩] ⟨0, 14, 21, 13⟩ [⟨0, 14, 25, 17⟩] (by rw [htab]; rfl) (fun z hz => (List.mem_cons.mp hz).elim (fun e => by subst e; exact Or.inr ⟨by decide, _, hk15, hG.nocast (q := ("java/lang/IndexOutOfBoundsException", "java/lang/IllegalArgumentException")) (by decide)⟩) (fun hz => absurd hz List.not_mem_nil)) (by rfl) (by decide) hk13 (hG.cast (q := ("java/lang/IndexOutOfBoundsException", "java/lang/IndexOutOfBoundsException")) (by decide)) h1 h2 h3 ?_
      refine lv_astore (lv' := [(6, .ref q9), (0, .ref x6), (1, .int p0), (2, .int p1), (3, .int p2), (4, .int p3), (5, .ref o)]) hx hb dL_send_21 hl (by decide) rfl (fun ls hl => ?_)
      refine lv_iconst (v := 2) hx hb dL_send_23 (by decide) ?_
      refine vx_ret ?_
      exact ql_e hx hb hr hlk hG hp (by rw [Nat.zero_add]; exact Nat.le_refl _) (by rw [Nat.zero_add]; exact Nat.le_refl _) dL_send_24
    · skip
      refine vx_catch (own := RL) (name := "java/lang/IllegalStateException") hown [⟨0, 14, 17, 15⟩, ⟨0, 14, 21, 13⟩] ⟨0, 14, 25, 17⟩ [] (by rw [htab]; rfl) (fun z hz => (List.mem_cons.mp hz).elim (fun e => by subst e; exact Or.inr ⟨by decide, _, hk15, hG.nocast (q := ("java/lang/IllegalStateException", "java/lang/IllegalArgumentException")) (by decide)⟩) (fun hz => (List.mem_cons.mp hz).elim (fun e => by subst e; exact Or.inr ⟨by decide, _, hk13, hG.nocast (q := ("java/lang/IllegalStateException", "java/lang/IndexOutOfBoundsException")) (by decide)⟩) (fun hz => absurd hz List.not_mem_nil))) (by rfl) (by decide) hk17 (hG.cast (q := ("java/lang/IllegalStateException", "java/lang/IllegalStateException")) (by decide)) h1 h2 h3 ?_
      refine lv_astore (lv' := [(6, .ref q9), (0, .ref x6), (1, .int p0), (2, .int p1), (3, .int p2), (4, .int p3), (5, .ref o)]) hx hb dL_send_25 hl (by decide) rfl (fun ls hl => ?_)
      refine lv_iconst (v := 3) hx hb dL_send_27 (by decide) ?_
      refine vx_ret ?_
      exact ql_e hx hb hr hlk hG hp (by rw [Nat.zero_add]; exact Nat.le_refl _) (by rw [Nat.zero_add]; exact Nat.le_refl _) dL_send_28
  · refine lv_i2l hx hb dL_send_12 rfl ?_
    refine ql_last hx hb hG dL_send_13 (fun H locs hG => ?_)
    refine lv_goto (tgt := 29) hx hb dL_send_14 (by decide) ?_
    refine lv_iconst (v := 0) hx hb dL_send_29 (by decide) ?_
    refine vx_ret ?_
    exact ql_e hx hb hr hlk hG h (by rw [Nat.zero_add]; exact Nat.le_refl _) (by rw [Nat.zero_add]; exact Nat.le_refl _) dL_send_30
set_option maxHeartbeats 4000000 in
set_option maxRecDepth 100000 in
theorem c_L_deliver (l : Launch) (hl9 : l.stackTraces = false) (g : qs_G) (o : Nat) (f : Nat → Int64) (sz : Nat) (SA : qs_S) (x6 : Nat) (p0 : Int32) {mc ms : Nat} {post : Int32 → qs_S → (Nat → Int64) → Prop} (hx6 : x6 ∈ qs_L SA ∧ qs_K SA x6 = 6) (h : wp_X6_deliver g.2.2.2.2.2.2.1 g.2.2.2.2.2.2.2 mc ms (fun (v : Int32) (S : qs_S) => post 0 S (vp_updL f (0 : Int32).toNatClampNeg v.toInt64)) (fun (E : String) (S : qs_S) => (E = "java/lang/IndexOutOfBoundsException" ∧ post 1 S f)) SA x6 p0) : vx_Met l yL_deliver wsL_deliver ({ frames := 12, cells := mc, slots := ms, locals := 282 } : Room) (qs_Pc (ql_g g o f) sz SA [.ref x6, .int p0, .ref o]) (ql_Qi g o (qs_F (ql_g g o f) SA sz) post) (qs_X (ql_g g o f) (qs_F (ql_g g o f) SA sz) (fun _ _ => False)) mc ms (qs_F (ql_g g o f) SA sz) := by
  refine vx_ofWH (cc := cL_deliver) (maxL := 4) (ret := (some .int)) (hh := [(0, 9, 12, 13)]) (by decide +kernel) rfl ?_
  intro p e s m args below meth c s₁ B hml hv
  obtain ⟨rfl, hsz, hG⟩ := qs_Gd.start hv
  subst hsz
  have hx := B.exec
  have hb := B.bytes
  have hr := B.returns
  have hts := atoms_spec (ws := wsL_deliver) B.pre
  have hown : s.vm.findClass RL = some m.cls := findClass_of_methodNamed B.named
  have hlk := B.notSynchronized
  have htab : c.exceptionTable.toList = tableOf [(0, 9, 12, 13)] := vx_table (x := yL_deliver) B (hts _ List.mem_cons_self)
  have hmR : mc ≤ (headSpec wsL_deliver ({ frames := 12, cells := mc, slots := ms, locals := 282 } : Room)).room.cells := Nat.le_refl _
  have hsR : ms ≤ (headSpec wsL_deliver ({ frames := 12, cells := mc, slots := ms, locals := 282 } : Room)).room.slots := Nat.le_refl _
  have hk13 : (Cond.classLink RL 13 "java/lang/IndexOutOfBoundsException").before ([.ref x6, .int p0, .ref o] : List Value).toArray s = true := hts (.classLink RL 13 "java/lang/IndexOutOfBoundsException") (List.mem_of_getElem? (i := 1) rfl)
  have hl := lv_entry ([.ref x6, .int p0, .ref o]) (n := 4) (Nat.le_of_ble_eq_true rfl)
  rw [lg_entry_eq]
  generalize (lg_sl ([.ref x6, .int p0, .ref o]) ++ List.replicate (4 - (lg_sl ([.ref x6, .int p0, .ref o])).length) Slot.unset).toArray = ls at hl ⊢
  have hl : lv_has ls 4 [(0, .ref x6), (1, .int p0), (2, .ref o)] := hl
  refine lv_aload_n hx hb dL_deliver_0 rfl (lv_at hl 2 rfl) ?_
  refine lv_iconst (v := 0) hx hb dL_deliver_1 (by decide) ?_
  refine lv_aload_n hx hb dL_deliver_2 rfl (lv_at hl 0 rfl) ?_
  refine lv_iload_n hx hb dL_deliver_3 rfl (lv_at hl 1 rfl) ?_
  refine qx_i hG (vx_runV (As := [.int p0]) (rest := [.int 0, .ref o]) ⟨hx, hb, hml, hown, hts⟩ (c_X6_deliver l hl9 (ql_g g o f) _ SA x6 p0 h) (cwV 1 hts gL_deliver_X6_deliver rfl rfl rfl (by decide +kernel) ⟨(Nat.le_of_ble_eq_true rfl), (Nat.le_of_ble_eq_true rfl)⟩) ⟨qs_Pc.blind _ _ _ _, hG.recv hx6.1 hx6.2 (by decide) rfl, hG.pre _⟩ rfl rfl hl.1 rfl (lv_room (Nat.le_of_ble_eq_true rfl)) dL_deliver_4 ⟨by rw [Nat.zero_add]; exact hmR, by rw [Nat.zero_add]; exact hsR⟩) (fun E S1 H locs ce q9 hp hG h1 h2 h3 => ?_) (fun v S1 H locs h hG => ?_)
  · obtain ⟨rfl, hp⟩ := hp
    refine vx_catch (own := RL) (name := "java/lang/IndexOutOfBoundsException") hown [] ⟨0, 9, 12, 13⟩ [] (by rw [htab]; rfl) (fun z hz => absurd hz List.not_mem_nil) (by rfl) (by decide) hk13 (hG.cast (q := ("java/lang/IndexOutOfBoundsException", "java/lang/IndexOutOfBoundsException")) (by decide)) h1 h2 h3 ?_
    refine lv_astore_n (lv' := [(3, .ref q9), (0, .ref x6), (1, .int p0), (2, .ref o)]) hx hb dL_deliver_12 rfl hl (by decide) rfl (fun ls hl => ?_)
    refine lv_iconst (v := 1) hx hb dL_deliver_13 (by decide) ?_
    refine vx_ret ?_
    exact ql_e hx hb hr hlk hG hp (by rw [Nat.zero_add]; exact Nat.le_refl _) (by rw [Nat.zero_add]; exact Nat.le_refl _) dL_deliver_14
  · refine lv_i2l hx hb dL_deliver_7 rfl ?_
    refine ql_last hx hb hG dL_deliver_8 (fun H locs hG => ?_)
    refine lv_goto (tgt := 15) hx hb dL_deliver_9 (by decide) ?_
    refine lv_iconst (v := 0) hx hb dL_deliver_15 (by decide) ?_
    refine vx_ret ?_
    exact ql_e hx hb hr hlk hG h (by rw [Nat.zero_add]; exact Nat.le_refl _) (by rw [Nat.zero_add]; exact Nat.le_refl _) dL_deliver_16
set_option maxHeartbeats 4000000 in
set_option maxRecDepth 100000 in
theorem c_L_act (l : Launch) (hl9 : l.stackTraces = false) (g : qs_G) (o : Nat) (f : Nat → Int64) (sz : Nat) (SA : qs_S) (x6 : Nat) (p0 : Int32) {mc ms : Nat} {post : Int32 → qs_S → (Nat → Int64) → Prop} (hx6 : x6 ∈ qs_L SA ∧ qs_K SA x6 = 6) (h : wp_X6_act g.2.2.2.2.2.2.1 g.2.2.2.2.2.2.2 mc ms (fun (v : Int32) (S : qs_S) => post 0 S (vp_updL f (0 : Int32).toNatClampNeg v.toInt64)) (fun (E : String) (S : qs_S) => (E = "java/lang/IndexOutOfBoundsException" ∧ post 1 S f)) SA x6 p0) : vx_Met l yL_act wsL_act ({ frames := 10, cells := mc, slots := ms, locals := 258 } : Room) (qs_Pc (ql_g g o f) sz SA [.ref x6, .int p0, .ref o]) (ql_Qi g o (qs_F (ql_g g o f) SA sz) post) (qs_X (ql_g g o f) (qs_F (ql_g g o f) SA sz) (fun _ _ => False)) mc ms (qs_F (ql_g g o f) SA sz) := by
  refine vx_ofWH (cc := cL_act) (maxL := 4) (ret := (some .int)) (hh := [(0, 9, 12, 13)]) (by decide +kernel) rfl ?_
  intro p e s m args below meth c s₁ B hml hv
  obtain ⟨rfl, hsz, hG⟩ := qs_Gd.start hv
  subst hsz
  have hx := B.exec
  have hb := B.bytes
  have hr := B.returns
  have hts := atoms_spec (ws := wsL_act) B.pre
  have hown : s.vm.findClass RL = some m.cls := findClass_of_methodNamed B.named
  have hlk := B.notSynchronized
  have htab : c.exceptionTable.toList = tableOf [(0, 9, 12, 13)] := vx_table (x := yL_act) B (hts _ List.mem_cons_self)
  have hmR : mc ≤ (headSpec wsL_act ({ frames := 10, cells := mc, slots := ms, locals := 258 } : Room)).room.cells := Nat.le_refl _
  have hsR : ms ≤ (headSpec wsL_act ({ frames := 10, cells := mc, slots := ms, locals := 258 } : Room)).room.slots := Nat.le_refl _
  have hk13 : (Cond.classLink RL 13 "java/lang/IndexOutOfBoundsException").before ([.ref x6, .int p0, .ref o] : List Value).toArray s = true := hts (.classLink RL 13 "java/lang/IndexOutOfBoundsException") (List.mem_of_getElem? (i := 1) rfl)
  have hl := lv_entry ([.ref x6, .int p0, .ref o]) (n := 4) (Nat.le_of_ble_eq_true rfl)
  rw [lg_entry_eq]
  generalize (lg_sl ([.ref x6, .int p0, .ref o]) ++ List.replicate (4 - (lg_sl ([.ref x6, .int p0, .ref o])).length) Slot.unset).toArray = ls at hl ⊢
  have hl : lv_has ls 4 [(0, .ref x6), (1, .int p0), (2, .ref o)] := hl
  refine lv_aload_n hx hb dL_act_0 rfl (lv_at hl 2 rfl) ?_
  refine lv_iconst (v := 0) hx hb dL_act_1 (by decide) ?_
  refine lv_aload_n hx hb dL_act_2 rfl (lv_at hl 0 rfl) ?_
  refine lv_iload_n hx hb dL_act_3 rfl (lv_at hl 1 rfl) ?_
  refine qx_i hG (vx_runV (As := [.int p0]) (rest := [.int 0, .ref o]) ⟨hx, hb, hml, hown, hts⟩ (c_X6_act l hl9 (ql_g g o f) _ SA x6 p0 h) (cwV 1 hts gL_act_X6_act rfl rfl rfl (by decide +kernel) ⟨(Nat.le_of_ble_eq_true rfl), (Nat.le_of_ble_eq_true rfl)⟩) ⟨qs_Pc.blind _ _ _ _, hG.recv hx6.1 hx6.2 (by decide) rfl, hG.pre _⟩ rfl rfl hl.1 rfl (lv_room (Nat.le_of_ble_eq_true rfl)) dL_act_4 ⟨by rw [Nat.zero_add]; exact hmR, by rw [Nat.zero_add]; exact hsR⟩) (fun E S1 H locs ce q9 hp hG h1 h2 h3 => ?_) (fun v S1 H locs h hG => ?_)
  · obtain ⟨rfl, hp⟩ := hp
    refine vx_catch (own := RL) (name := "java/lang/IndexOutOfBoundsException") hown [] ⟨0, 9, 12, 13⟩ [] (by rw [htab]; rfl) (fun z hz => absurd hz List.not_mem_nil) (by rfl) (by decide) hk13 (hG.cast (q := ("java/lang/IndexOutOfBoundsException", "java/lang/IndexOutOfBoundsException")) (by decide)) h1 h2 h3 ?_
    refine lv_astore_n (lv' := [(3, .ref q9), (0, .ref x6), (1, .int p0), (2, .ref o)]) hx hb dL_act_12 rfl hl (by decide) rfl (fun ls hl => ?_)
    refine lv_iconst (v := 1) hx hb dL_act_13 (by decide) ?_
    refine vx_ret ?_
    exact ql_e hx hb hr hlk hG hp (by rw [Nat.zero_add]; exact Nat.le_refl _) (by rw [Nat.zero_add]; exact Nat.le_refl _) dL_act_14
  · refine lv_i2l hx hb dL_act_7 rfl ?_
    refine ql_last hx hb hG dL_act_8 (fun H locs hG => ?_)
    refine lv_goto (tgt := 15) hx hb dL_act_9 (by decide) ?_
    refine lv_iconst (v := 0) hx hb dL_act_15 (by decide) ?_
    refine vx_ret ?_
    exact ql_e hx hb hr hlk hG h (by rw [Nat.zero_add]; exact Nat.le_refl _) (by rw [Nat.zero_add]; exact Nat.le_refl _) dL_act_16
set_option maxHeartbeats 4000000 in
set_option maxRecDepth 100000 in
theorem c_L_lose (l : Launch) (hl9 : l.stackTraces = false) (g : qs_G) (o : Nat) (f : Nat → Int64) (sz : Nat) (SA : qs_S) (x6 : Nat) (p0 : Int32) (p1 : Int32) (p2 : Int32) {mc ms : Nat} {post : Int32 → qs_S → (Nat → Int64) → Prop} (hx6 : x6 ∈ qs_L SA ∧ qs_K SA x6 = 6) (h : wp_X6_lose g.2.2.2.2.2.2.1 g.2.2.2.2.2.2.2 mc ms (fun (v : Int32) (S : qs_S) => post 0 S (vp_updL f (0 : Int32).toNatClampNeg v.toInt64)) (fun (E : String) (S : qs_S) => (E = "java/lang/IndexOutOfBoundsException" ∧ post 1 S f) ∨ (E = "java/lang/IllegalArgumentException" ∧ post 2 S f)) SA x6 p0 p1 p2) : vx_Met l yL_lose wsL_lose ({ frames := 10, cells := mc, slots := ms, locals := 177 } : Room) (qs_Pc (ql_g g o f) sz SA [.ref x6, .int p0, .int p1, .int p2, .ref o]) (ql_Qi g o (qs_F (ql_g g o f) SA sz) post) (qs_X (ql_g g o f) (qs_F (ql_g g o f) SA sz) (fun _ _ => False)) mc ms (qs_F (ql_g g o f) SA sz) := by
  refine vx_ofWH (cc := cL_lose) (maxL := 6) (ret := (some .int)) (hh := [(0, 12, 15, 13), (0, 12, 19, 15)]) (by decide +kernel) rfl ?_
  intro p e s m args below meth c s₁ B hml hv
  obtain ⟨rfl, hsz, hG⟩ := qs_Gd.start hv
  subst hsz
  have hx := B.exec
  have hb := B.bytes
  have hr := B.returns
  have hts := atoms_spec (ws := wsL_lose) B.pre
  have hown : s.vm.findClass RL = some m.cls := findClass_of_methodNamed B.named
  have hlk := B.notSynchronized
  have htab : c.exceptionTable.toList = tableOf [(0, 12, 15, 13), (0, 12, 19, 15)] := vx_table (x := yL_lose) B (hts _ List.mem_cons_self)
  have hmR : mc ≤ (headSpec wsL_lose ({ frames := 10, cells := mc, slots := ms, locals := 177 } : Room)).room.cells := Nat.le_refl _
  have hsR : ms ≤ (headSpec wsL_lose ({ frames := 10, cells := mc, slots := ms, locals := 177 } : Room)).room.slots := Nat.le_refl _
  have hk13 : (Cond.classLink RL 13 "java/lang/IndexOutOfBoundsException").before ([.ref x6, .int p0, .int p1, .int p2, .ref o] : List Value).toArray s = true := hts (.classLink RL 13 "java/lang/IndexOutOfBoundsException") (List.mem_of_getElem? (i := 1) rfl)
  have hk15 : (Cond.classLink RL 15 "java/lang/IllegalArgumentException").before ([.ref x6, .int p0, .int p1, .int p2, .ref o] : List Value).toArray s = true := hts (.classLink RL 15 "java/lang/IllegalArgumentException") (List.mem_of_getElem? (i := 2) rfl)
  have hl := lv_entry ([.ref x6, .int p0, .int p1, .int p2, .ref o]) (n := 6) (Nat.le_of_ble_eq_true rfl)
  rw [lg_entry_eq]
  generalize (lg_sl ([.ref x6, .int p0, .int p1, .int p2, .ref o]) ++ List.replicate (6 - (lg_sl ([.ref x6, .int p0, .int p1, .int p2, .ref o])).length) Slot.unset).toArray = ls at hl ⊢
  have hl : lv_has ls 6 [(0, .ref x6), (1, .int p0), (2, .int p1), (3, .int p2), (4, .ref o)] := hl
  refine lv_aload hx hb dL_lose_0 (lv_at hl 4 rfl) ?_
  refine lv_iconst (v := 0) hx hb dL_lose_2 (by decide) ?_
  refine lv_aload_n hx hb dL_lose_3 rfl (lv_at hl 0 rfl) ?_
  refine lv_iload_n hx hb dL_lose_4 rfl (lv_at hl 1 rfl) ?_
  refine lv_iload_n hx hb dL_lose_5 rfl (lv_at hl 2 rfl) ?_
  refine lv_iload_n hx hb dL_lose_6 rfl (lv_at hl 3 rfl) ?_
  refine qx_i hG (vx_runV (As := [.int p0, .int p1, .int p2]) (rest := [.int 0, .ref o]) ⟨hx, hb, hml, hown, hts⟩ (c_X6_lose l hl9 (ql_g g o f) _ SA x6 p0 p1 p2 h) (cwV 3 hts gL_lose_X6_lose rfl rfl rfl (by decide +kernel) ⟨(Nat.le_of_ble_eq_true rfl), (Nat.le_of_ble_eq_true rfl)⟩) ⟨qs_Pc.blind _ _ _ _, hG.recv hx6.1 hx6.2 (by decide) rfl, hG.pre _⟩ rfl rfl hl.1 rfl (lv_room (Nat.le_of_ble_eq_true rfl)) dL_lose_7 ⟨by rw [Nat.zero_add]; exact hmR, by rw [Nat.zero_add]; exact hsR⟩) (fun E S1 H locs ce q9 hp hG h1 h2 h3 => ?_) (fun v S1 H locs h hG => ?_)
  · rcases hp with ⟨rfl, hp⟩ | ⟨rfl, hp⟩
    · skip
      refine vx_catch (own := RL) (name := "java/lang/IndexOutOfBoundsException") hown [] ⟨0, 12, 15, 13⟩ [⟨0, 12, 19, 15⟩] (by rw [htab]; rfl) (fun z hz => absurd hz List.not_mem_nil) (by rfl) (by decide) hk13 (hG.cast (q := ("java/lang/IndexOutOfBoundsException", "java/lang/IndexOutOfBoundsException")) (by decide)) h1 h2 h3 ?_
      refine lv_astore (lv' := [(5, .ref q9), (0, .ref x6), (1, .int p0), (2, .int p1), (3, .int p2), (4, .ref o)]) hx hb dL_lose_15 hl (by decide) rfl (fun ls hl => ?_)
      refine lv_iconst (v := 1) hx hb dL_lose_17 (by decide) ?_
      refine vx_ret ?_
      exact ql_e hx hb hr hlk hG hp (by rw [Nat.zero_add]; exact Nat.le_refl _) (by rw [Nat.zero_add]; exact Nat.le_refl _) dL_lose_18
    · skip
      refine vx_catch (own := RL) (name := "java/lang/IllegalArgumentException") hown [⟨0, 12, 15, 13⟩] ⟨0, 12, 19, 15⟩ [] (by rw [htab]; rfl) (fun z hz => (List.mem_cons.mp hz).elim (fun e => by subst e; exact Or.inr ⟨by decide, _, hk13, hG.nocast (q := ("java/lang/IllegalArgumentException", "java/lang/IndexOutOfBoundsException")) (by decide)⟩) (fun hz => absurd hz List.not_mem_nil)) (by rfl) (by decide) hk15 (hG.cast (q := ("java/lang/IllegalArgumentException", "java/lang/IllegalArgumentException")) (by decide)) h1 h2 h3 ?_
      refine lv_astore (lv' := [(5, .ref q9), (0, .ref x6), (1, .int p0), (2, .int p1), (3, .int p2), (4, .ref o)]) hx hb dL_lose_19 hl (by decide) rfl (fun ls hl => ?_)
      refine lv_iconst (v := 2) hx hb dL_lose_21 (by decide) ?_
      refine vx_ret ?_
      exact ql_e hx hb hr hlk hG hp (by rw [Nat.zero_add]; exact Nat.le_refl _) (by rw [Nat.zero_add]; exact Nat.le_refl _) dL_lose_22
  · refine lv_i2l hx hb dL_lose_10 rfl ?_
    refine ql_last hx hb hG dL_lose_11 (fun H locs hG => ?_)
    refine lv_goto (tgt := 23) hx hb dL_lose_12 (by decide) ?_
    refine lv_iconst (v := 0) hx hb dL_lose_23 (by decide) ?_
    refine vx_ret ?_
    exact ql_e hx hb hr hlk hG h (by rw [Nat.zero_add]; exact Nat.le_refl _) (by rw [Nat.zero_add]; exact Nat.le_refl _) dL_lose_24
set_option maxHeartbeats 4000000 in
set_option maxRecDepth 100000 in
theorem c_L_repeat (l : Launch) (hl9 : l.stackTraces = false) (g : qs_G) (o : Nat) (f : Nat → Int64) (sz : Nat) (SA : qs_S) (x6 : Nat) (p0 : Int32) {mc ms : Nat} {post : Int32 → qs_S → (Nat → Int64) → Prop} (hx6 : x6 ∈ qs_L SA ∧ qs_K SA x6 = 6) (h : wp_X6_repeat g.2.2.2.2.2.2.1 g.2.2.2.2.2.2.2 mc ms (fun (v : Int32) (S : qs_S) => post 0 S (vp_updL f (0 : Int32).toNatClampNeg v.toInt64)) (fun (E : String) (S : qs_S) => (E = "java/lang/IndexOutOfBoundsException" ∧ post 1 S f) ∨ (E = "java/lang/IllegalStateException" ∧ post 2 S f)) SA x6 p0) : vx_Met l yL_repeat wsL_repeat ({ frames := 11, cells := mc, slots := ms, locals := 214 } : Room) (qs_Pc (ql_g g o f) sz SA [.ref x6, .int p0, .ref o]) (ql_Qi g o (qs_F (ql_g g o f) SA sz) post) (qs_X (ql_g g o f) (qs_F (ql_g g o f) SA sz) (fun _ _ => False)) mc ms (qs_F (ql_g g o f) SA sz) := by
  refine vx_ofWH (cc := cL_repeat) (maxL := 4) (ret := (some .int)) (hh := [(0, 9, 12, 13), (0, 9, 15, 17)]) (by decide +kernel) rfl ?_
  intro p e s m args below meth c s₁ B hml hv
  obtain ⟨rfl, hsz, hG⟩ := qs_Gd.start hv
  subst hsz
  have hx := B.exec
  have hb := B.bytes
  have hr := B.returns
  have hts := atoms_spec (ws := wsL_repeat) B.pre
  have hown : s.vm.findClass RL = some m.cls := findClass_of_methodNamed B.named
  have hlk := B.notSynchronized
  have htab : c.exceptionTable.toList = tableOf [(0, 9, 12, 13), (0, 9, 15, 17)] := vx_table (x := yL_repeat) B (hts _ List.mem_cons_self)
  have hmR : mc ≤ (headSpec wsL_repeat ({ frames := 11, cells := mc, slots := ms, locals := 214 } : Room)).room.cells := Nat.le_refl _
  have hsR : ms ≤ (headSpec wsL_repeat ({ frames := 11, cells := mc, slots := ms, locals := 214 } : Room)).room.slots := Nat.le_refl _
  have hk13 : (Cond.classLink RL 13 "java/lang/IndexOutOfBoundsException").before ([.ref x6, .int p0, .ref o] : List Value).toArray s = true := hts (.classLink RL 13 "java/lang/IndexOutOfBoundsException") (List.mem_of_getElem? (i := 1) rfl)
  have hk17 : (Cond.classLink RL 17 "java/lang/IllegalStateException").before ([.ref x6, .int p0, .ref o] : List Value).toArray s = true := hts (.classLink RL 17 "java/lang/IllegalStateException") (List.mem_of_getElem? (i := 2) rfl)
  have hl := lv_entry ([.ref x6, .int p0, .ref o]) (n := 4) (Nat.le_of_ble_eq_true rfl)
  rw [lg_entry_eq]
  generalize (lg_sl ([.ref x6, .int p0, .ref o]) ++ List.replicate (4 - (lg_sl ([.ref x6, .int p0, .ref o])).length) Slot.unset).toArray = ls at hl ⊢
  have hl : lv_has ls 4 [(0, .ref x6), (1, .int p0), (2, .ref o)] := hl
  refine lv_aload_n hx hb dL_repeat_0 rfl (lv_at hl 2 rfl) ?_
  refine lv_iconst (v := 0) hx hb dL_repeat_1 (by decide) ?_
  refine lv_aload_n hx hb dL_repeat_2 rfl (lv_at hl 0 rfl) ?_
  refine lv_iload_n hx hb dL_repeat_3 rfl (lv_at hl 1 rfl) ?_
  refine qx_i hG (vx_runV (As := [.int p0]) (rest := [.int 0, .ref o]) ⟨hx, hb, hml, hown, hts⟩ (c_X6_repeat l hl9 (ql_g g o f) _ SA x6 p0 h) (cwV 1 hts gL_repeat_X6_repeat rfl rfl rfl (by decide +kernel) ⟨(Nat.le_of_ble_eq_true rfl), (Nat.le_of_ble_eq_true rfl)⟩) ⟨qs_Pc.blind _ _ _ _, hG.recv hx6.1 hx6.2 (by decide) rfl, hG.pre _⟩ rfl rfl hl.1 rfl (lv_room (Nat.le_of_ble_eq_true rfl)) dL_repeat_4 ⟨by rw [Nat.zero_add]; exact hmR, by rw [Nat.zero_add]; exact hsR⟩) (fun E S1 H locs ce q9 hp hG h1 h2 h3 => ?_) (fun v S1 H locs h hG => ?_)
  · rcases hp with ⟨rfl, hp⟩ | ⟨rfl, hp⟩
    · skip
      refine vx_catch (own := RL) (name := "java/lang/IndexOutOfBoundsException") hown [] ⟨0, 9, 12, 13⟩ [⟨0, 9, 15, 17⟩] (by rw [htab]; rfl) (fun z hz => absurd hz List.not_mem_nil) (by rfl) (by decide) hk13 (hG.cast (q := ("java/lang/IndexOutOfBoundsException", "java/lang/IndexOutOfBoundsException")) (by decide)) h1 h2 h3 ?_
      refine lv_astore_n (lv' := [(3, .ref q9), (0, .ref x6), (1, .int p0), (2, .ref o)]) hx hb dL_repeat_12 rfl hl (by decide) rfl (fun ls hl => ?_)
      refine lv_iconst (v := 1) hx hb dL_repeat_13 (by decide) ?_
      refine vx_ret ?_
      exact ql_e hx hb hr hlk hG hp (by rw [Nat.zero_add]; exact Nat.le_refl _) (by rw [Nat.zero_add]; exact Nat.le_refl _) dL_repeat_14
    · skip
      refine vx_catch (own := RL) (name := "java/lang/IllegalStateException") hown [⟨0, 9, 12, 13⟩] ⟨0, 9, 15, 17⟩ [] (by rw [htab]; rfl) (fun z hz => (List.mem_cons.mp hz).elim (fun e => by subst e; exact Or.inr ⟨by decide, _, hk13, hG.nocast (q := ("java/lang/IllegalStateException", "java/lang/IndexOutOfBoundsException")) (by decide)⟩) (fun hz => absurd hz List.not_mem_nil)) (by rfl) (by decide) hk17 (hG.cast (q := ("java/lang/IllegalStateException", "java/lang/IllegalStateException")) (by decide)) h1 h2 h3 ?_
      refine lv_astore_n (lv' := [(3, .ref q9), (0, .ref x6), (1, .int p0), (2, .ref o)]) hx hb dL_repeat_15 rfl hl (by decide) rfl (fun ls hl => ?_)
      refine lv_iconst (v := 2) hx hb dL_repeat_16 (by decide) ?_
      refine vx_ret ?_
      exact ql_e hx hb hr hlk hG hp (by rw [Nat.zero_add]; exact Nat.le_refl _) (by rw [Nat.zero_add]; exact Nat.le_refl _) dL_repeat_17
  · refine lv_i2l hx hb dL_repeat_7 rfl ?_
    refine ql_last hx hb hG dL_repeat_8 (fun H locs hG => ?_)
    refine lv_goto (tgt := 18) hx hb dL_repeat_9 (by decide) ?_
    refine lv_iconst (v := 0) hx hb dL_repeat_18 (by decide) ?_
    refine vx_ret ?_
    exact ql_e hx hb hr hlk hG h (by rw [Nat.zero_add]; exact Nat.le_refl _) (by rw [Nat.zero_add]; exact Nat.le_refl _) dL_repeat_19
set_option maxHeartbeats 4000000 in
set_option maxRecDepth 100000 in
theorem c_L_silence (l : Launch) (hl9 : l.stackTraces = false) (g : qs_G) (o : Nat) (f : Nat → Int64) (sz : Nat) (SA : qs_S) (x6 : Nat) (p0 : Int32) (p1 : Int32) {mc ms : Nat} {post : Int32 → qs_S → (Nat → Int64) → Prop} (hx6 : x6 ∈ qs_L SA ∧ qs_K SA x6 = 6) (h : wp_X6_silence g.2.2.2.2.2.2.1 g.2.2.2.2.2.2.2 mc ms (fun (v : Int32) (S : qs_S) => post 0 S (vp_updL f (0 : Int32).toNatClampNeg (if v = 0 then 0 else 1))) (fun (E : String) (S : qs_S) => (E = "java/lang/IndexOutOfBoundsException" ∧ post 1 S f)) SA x6 p0 p1) : vx_Met l yL_silence wsL_silence ({ frames := 9, cells := mc, slots := ms, locals := 156 } : Room) (qs_Pc (ql_g g o f) sz SA [.ref x6, .int p0, .int p1, .ref o]) (ql_Qi g o (qs_F (ql_g g o f) SA sz) post) (qs_X (ql_g g o f) (qs_F (ql_g g o f) SA sz) (fun _ _ => False)) mc ms (qs_F (ql_g g o f) SA sz) := by
  refine vx_ofWH (cc := cL_silence) (maxL := 5) (ret := (some .int)) (hh := [(0, 17, 20, 13)]) (by decide +kernel) rfl ?_
  intro p e s m args below meth c s₁ B hml hv
  obtain ⟨rfl, hsz, hG⟩ := qs_Gd.start hv
  subst hsz
  have hx := B.exec
  have hb := B.bytes
  have hr := B.returns
  have hts := atoms_spec (ws := wsL_silence) B.pre
  have hown : s.vm.findClass RL = some m.cls := findClass_of_methodNamed B.named
  have hlk := B.notSynchronized
  have htab : c.exceptionTable.toList = tableOf [(0, 17, 20, 13)] := vx_table (x := yL_silence) B (hts _ List.mem_cons_self)
  have hmR : mc ≤ (headSpec wsL_silence ({ frames := 9, cells := mc, slots := ms, locals := 156 } : Room)).room.cells := Nat.le_refl _
  have hsR : ms ≤ (headSpec wsL_silence ({ frames := 9, cells := mc, slots := ms, locals := 156 } : Room)).room.slots := Nat.le_refl _
  have hk13 : (Cond.classLink RL 13 "java/lang/IndexOutOfBoundsException").before ([.ref x6, .int p0, .int p1, .ref o] : List Value).toArray s = true := hts (.classLink RL 13 "java/lang/IndexOutOfBoundsException") (List.mem_of_getElem? (i := 1) rfl)
  have hl := lv_entry ([.ref x6, .int p0, .int p1, .ref o]) (n := 5) (Nat.le_of_ble_eq_true rfl)
  rw [lg_entry_eq]
  generalize (lg_sl ([.ref x6, .int p0, .int p1, .ref o]) ++ List.replicate (5 - (lg_sl ([.ref x6, .int p0, .int p1, .ref o])).length) Slot.unset).toArray = ls at hl ⊢
  have hl : lv_has ls 5 [(0, .ref x6), (1, .int p0), (2, .int p1), (3, .ref o)] := hl
  refine lv_aload_n hx hb dL_silence_0 rfl (lv_at hl 3 rfl) ?_
  refine lv_iconst (v := 0) hx hb dL_silence_1 (by decide) ?_
  refine lv_aload_n hx hb dL_silence_2 rfl (lv_at hl 0 rfl) ?_
  refine lv_iload_n hx hb dL_silence_3 rfl (lv_at hl 1 rfl) ?_
  refine lv_iload_n hx hb dL_silence_4 rfl (lv_at hl 2 rfl) ?_
  refine qx_i hG (vx_runV (As := [.int p0, .int p1]) (rest := [.int 0, .ref o]) ⟨hx, hb, hml, hown, hts⟩ (c_X6_silence l hl9 (ql_g g o f) _ SA x6 p0 p1 h) (cwV 2 hts gL_silence_X6_silence rfl rfl rfl (by decide +kernel) ⟨(Nat.le_of_ble_eq_true rfl), (Nat.le_of_ble_eq_true rfl)⟩) ⟨qs_Pc.blind _ _ _ _, hG.recv hx6.1 hx6.2 (by decide) rfl, hG.pre _⟩ rfl rfl hl.1 rfl (lv_room (Nat.le_of_ble_eq_true rfl)) dL_silence_5 ⟨by rw [Nat.zero_add]; exact hmR, by rw [Nat.zero_add]; exact hsR⟩) (fun E S1 H locs ce q9 hp hG h1 h2 h3 => ?_) (fun v S1 H locs h hG => ?_)
  · obtain ⟨rfl, hp⟩ := hp
    refine vx_catch (own := RL) (name := "java/lang/IndexOutOfBoundsException") hown [] ⟨0, 17, 20, 13⟩ [] (by rw [htab]; rfl) (fun z hz => absurd hz List.not_mem_nil) (by rfl) (by decide) hk13 (hG.cast (q := ("java/lang/IndexOutOfBoundsException", "java/lang/IndexOutOfBoundsException")) (by decide)) h1 h2 h3 ?_
    refine lv_astore (lv' := [(4, .ref q9), (0, .ref x6), (1, .int p0), (2, .int p1), (3, .ref o)]) hx hb dL_silence_20 hl (by decide) rfl (fun ls hl => ?_)
    refine lv_iconst (v := 1) hx hb dL_silence_22 (by decide) ?_
    refine vx_ret ?_
    exact ql_e hx hb hr hlk hG hp (by rw [Nat.zero_add]; exact Nat.le_refl _) (by rw [Nat.zero_add]; exact Nat.le_refl _) dL_silence_23
  · refine lv_if_eq (tgt := 15) hx hb dL_silence_8 (by decide) (fun c1 => ?_) (fun c1 => ?_)
    · rw [if_pos c1] at h
      refine lv_lconst (v := 0) hx hb dL_silence_15 rfl ?_
      refine ql_last hx hb hG dL_silence_16 (fun H locs hG => ?_)
      refine lv_goto (tgt := 24) hx hb dL_silence_17 (by decide) ?_
      refine lv_iconst (v := 0) hx hb dL_silence_24 (by decide) ?_
      refine vx_ret ?_
      exact ql_e hx hb hr hlk hG h (by rw [Nat.zero_add]; exact Nat.le_refl _) (by rw [Nat.zero_add]; exact Nat.le_refl _) dL_silence_25
    · rw [if_neg c1] at h
      refine lv_lconst (v := 1) hx hb dL_silence_11 rfl ?_
      refine lv_goto (tgt := 16) hx hb dL_silence_12 (by decide) ?_
      refine ql_last hx hb hG dL_silence_16 (fun H locs hG => ?_)
      refine lv_goto (tgt := 24) hx hb dL_silence_17 (by decide) ?_
      refine lv_iconst (v := 0) hx hb dL_silence_24 (by decide) ?_
      refine vx_ret ?_
      exact ql_e hx hb hr hlk hG h (by rw [Nat.zero_add]; exact Nat.le_refl _) (by rw [Nat.zero_add]; exact Nat.le_refl _) dL_silence_25
set_option maxHeartbeats 4000000 in
set_option maxRecDepth 100000 in
theorem c_L_giveAway (l : Launch) (hl9 : l.stackTraces = false) (g : qs_G) (o : Nat) (f : Nat → Int64) (sz : Nat) (SA : qs_S) (x6 : Nat) (p0 : Int32) (p1 : Int32) {mc ms : Nat} {post : Int32 → qs_S → (Nat → Int64) → Prop} (hx6 : x6 ∈ qs_L SA ∧ qs_K SA x6 = 6) (h : wp_X6_giveAway g.2.2.2.2.2.2.1 g.2.2.2.2.2.2.2 mc ms (fun (v : Int32) (S : qs_S) => post 0 S (vp_updL f (0 : Int32).toNatClampNeg v.toInt64)) (fun (E : String) (S : qs_S) => (E = "java/lang/IndexOutOfBoundsException" ∧ post 1 S f) ∨ (E = "java/lang/IllegalStateException" ∧ post 2 S f)) SA x6 p0 p1) : vx_Met l yL_giveAway wsL_giveAway ({ frames := 9, cells := mc, slots := ms, locals := 217 } : Room) (qs_Pc (ql_g g o f) sz SA [.ref x6, .int p0, .int p1, .ref o]) (ql_Qi g o (qs_F (ql_g g o f) SA sz) post) (qs_X (ql_g g o f) (qs_F (ql_g g o f) SA sz) (fun _ _ => False)) mc ms (qs_F (ql_g g o f) SA sz) := by
  refine vx_ofWH (cc := cL_giveAway) (maxL := 5) (ret := (some .int)) (hh := [(0, 10, 13, 13), (0, 10, 17, 17)]) (by decide +kernel) rfl ?_
  intro p e s m args below meth c s₁ B hml hv
  obtain ⟨rfl, hsz, hG⟩ := qs_Gd.start hv
  subst hsz
  have hx := B.exec
  have hb := B.bytes
  have hr := B.returns
  have hts := atoms_spec (ws := wsL_giveAway) B.pre
  have hown : s.vm.findClass RL = some m.cls := findClass_of_methodNamed B.named
  have hlk := B.notSynchronized
  have htab : c.exceptionTable.toList = tableOf [(0, 10, 13, 13), (0, 10, 17, 17)] := vx_table (x := yL_giveAway) B (hts _ List.mem_cons_self)
  have hmR : mc ≤ (headSpec wsL_giveAway ({ frames := 9, cells := mc, slots := ms, locals := 217 } : Room)).room.cells := Nat.le_refl _
  have hsR : ms ≤ (headSpec wsL_giveAway ({ frames := 9, cells := mc, slots := ms, locals := 217 } : Room)).room.slots := Nat.le_refl _
  have hk13 : (Cond.classLink RL 13 "java/lang/IndexOutOfBoundsException").before ([.ref x6, .int p0, .int p1, .ref o] : List Value).toArray s = true := hts (.classLink RL 13 "java/lang/IndexOutOfBoundsException") (List.mem_of_getElem? (i := 1) rfl)
  have hk17 : (Cond.classLink RL 17 "java/lang/IllegalStateException").before ([.ref x6, .int p0, .int p1, .ref o] : List Value).toArray s = true := hts (.classLink RL 17 "java/lang/IllegalStateException") (List.mem_of_getElem? (i := 2) rfl)
  have hl := lv_entry ([.ref x6, .int p0, .int p1, .ref o]) (n := 5) (Nat.le_of_ble_eq_true rfl)
  rw [lg_entry_eq]
  generalize (lg_sl ([.ref x6, .int p0, .int p1, .ref o]) ++ List.replicate (5 - (lg_sl ([.ref x6, .int p0, .int p1, .ref o])).length) Slot.unset).toArray = ls at hl ⊢
  have hl : lv_has ls 5 [(0, .ref x6), (1, .int p0), (2, .int p1), (3, .ref o)] := hl
  refine lv_aload_n hx hb dL_giveAway_0 rfl (lv_at hl 3 rfl) ?_
  refine lv_iconst (v := 0) hx hb dL_giveAway_1 (by decide) ?_
  refine lv_aload_n hx hb dL_giveAway_2 rfl (lv_at hl 0 rfl) ?_
  refine lv_iload_n hx hb dL_giveAway_3 rfl (lv_at hl 1 rfl) ?_
  refine lv_iload_n hx hb dL_giveAway_4 rfl (lv_at hl 2 rfl) ?_
  refine qx_i hG (vx_runV (As := [.int p0, .int p1]) (rest := [.int 0, .ref o]) ⟨hx, hb, hml, hown, hts⟩ (c_X6_giveAway l hl9 (ql_g g o f) _ SA x6 p0 p1 h) (cwV 2 hts gL_giveAway_X6_giveAway rfl rfl rfl (by decide +kernel) ⟨(Nat.le_of_ble_eq_true rfl), (Nat.le_of_ble_eq_true rfl)⟩) ⟨qs_Pc.blind _ _ _ _, hG.recv hx6.1 hx6.2 (by decide) rfl, hG.pre _⟩ rfl rfl hl.1 rfl (lv_room (Nat.le_of_ble_eq_true rfl)) dL_giveAway_5 ⟨by rw [Nat.zero_add]; exact hmR, by rw [Nat.zero_add]; exact hsR⟩) (fun E S1 H locs ce q9 hp hG h1 h2 h3 => ?_) (fun v S1 H locs h hG => ?_)
  · rcases hp with ⟨rfl, hp⟩ | ⟨rfl, hp⟩
    · skip
      refine vx_catch (own := RL) (name := "java/lang/IndexOutOfBoundsException") hown [] ⟨0, 10, 13, 13⟩ [⟨0, 10, 17, 17⟩] (by rw [htab]; rfl) (fun z hz => absurd hz List.not_mem_nil) (by rfl) (by decide) hk13 (hG.cast (q := ("java/lang/IndexOutOfBoundsException", "java/lang/IndexOutOfBoundsException")) (by decide)) h1 h2 h3 ?_
      refine lv_astore (lv' := [(4, .ref q9), (0, .ref x6), (1, .int p0), (2, .int p1), (3, .ref o)]) hx hb dL_giveAway_13 hl (by decide) rfl (fun ls hl => ?_)
      refine lv_iconst (v := 1) hx hb dL_giveAway_15 (by decide) ?_
      refine vx_ret ?_
      exact ql_e hx hb hr hlk hG hp (by rw [Nat.zero_add]; exact Nat.le_refl _) (by rw [Nat.zero_add]; exact Nat.le_refl _) dL_giveAway_16
    · skip
      refine vx_catch (own := RL) (name := "java/lang/IllegalStateException") hown [⟨0, 10, 13, 13⟩] ⟨0, 10, 17, 17⟩ [] (by rw [htab]; rfl) (fun z hz => (List.mem_cons.mp hz).elim (fun e => by subst e; exact Or.inr ⟨by decide, _, hk13, hG.nocast (q := ("java/lang/IllegalStateException", "java/lang/IndexOutOfBoundsException")) (by decide)⟩) (fun hz => absurd hz List.not_mem_nil)) (by rfl) (by decide) hk17 (hG.cast (q := ("java/lang/IllegalStateException", "java/lang/IllegalStateException")) (by decide)) h1 h2 h3 ?_
      refine lv_astore (lv' := [(4, .ref q9), (0, .ref x6), (1, .int p0), (2, .int p1), (3, .ref o)]) hx hb dL_giveAway_17 hl (by decide) rfl (fun ls hl => ?_)
      refine lv_iconst (v := 2) hx hb dL_giveAway_19 (by decide) ?_
      refine vx_ret ?_
      exact ql_e hx hb hr hlk hG hp (by rw [Nat.zero_add]; exact Nat.le_refl _) (by rw [Nat.zero_add]; exact Nat.le_refl _) dL_giveAway_20
  · refine lv_i2l hx hb dL_giveAway_8 rfl ?_
    refine ql_last hx hb hG dL_giveAway_9 (fun H locs hG => ?_)
    refine lv_goto (tgt := 21) hx hb dL_giveAway_10 (by decide) ?_
    refine lv_iconst (v := 0) hx hb dL_giveAway_21 (by decide) ?_
    refine vx_ret ?_
    exact ql_e hx hb hr hlk hG h (by rw [Nat.zero_add]; exact Nat.le_refl _) (by rw [Nat.zero_add]; exact Nat.le_refl _) dL_giveAway_22
set_option maxHeartbeats 4000000 in
set_option maxRecDepth 100000 in
theorem c_L_park (l : Launch) (hl9 : l.stackTraces = false) (g : qs_G) (o : Nat) (f : Nat → Int64) (sz : Nat) (SA : qs_S) (x6 : Nat) (p0 : Int32) (p1 : Int32) {mc ms : Nat} {post : Int32 → qs_S → (Nat → Int64) → Prop} (hx6 : x6 ∈ qs_L SA ∧ qs_K SA x6 = 6) (h : wp_X6_park g.2.2.2.2.2.2.1 g.2.2.2.2.2.2.2 mc ms (fun (v : Int32) (S : qs_S) => post 0 S (vp_updL f (0 : Int32).toNatClampNeg v.toInt64)) (fun (E : String) (S : qs_S) => (E = "java/lang/IndexOutOfBoundsException" ∧ post 1 S f) ∨ (E = "java/lang/IllegalStateException" ∧ post 2 S f)) SA x6 p0 p1) : vx_Met l yL_park wsL_park ({ frames := 10, cells := mc, slots := ms, locals := 180 } : Room) (qs_Pc (ql_g g o f) sz SA [.ref x6, .int p0, .int p1, .ref o]) (ql_Qi g o (qs_F (ql_g g o f) SA sz) post) (qs_X (ql_g g o f) (qs_F (ql_g g o f) SA sz) (fun _ _ => False)) mc ms (qs_F (ql_g g o f) SA sz) := by
  refine vx_ofWH (cc := cL_park) (maxL := 5) (ret := (some .int)) (hh := [(0, 10, 13, 13), (0, 10, 17, 17)]) (by decide +kernel) rfl ?_
  intro p e s m args below meth c s₁ B hml hv
  obtain ⟨rfl, hsz, hG⟩ := qs_Gd.start hv
  subst hsz
  have hx := B.exec
  have hb := B.bytes
  have hr := B.returns
  have hts := atoms_spec (ws := wsL_park) B.pre
  have hown : s.vm.findClass RL = some m.cls := findClass_of_methodNamed B.named
  have hlk := B.notSynchronized
  have htab : c.exceptionTable.toList = tableOf [(0, 10, 13, 13), (0, 10, 17, 17)] := vx_table (x := yL_park) B (hts _ List.mem_cons_self)
  have hmR : mc ≤ (headSpec wsL_park ({ frames := 10, cells := mc, slots := ms, locals := 180 } : Room)).room.cells := Nat.le_refl _
  have hsR : ms ≤ (headSpec wsL_park ({ frames := 10, cells := mc, slots := ms, locals := 180 } : Room)).room.slots := Nat.le_refl _
  have hk13 : (Cond.classLink RL 13 "java/lang/IndexOutOfBoundsException").before ([.ref x6, .int p0, .int p1, .ref o] : List Value).toArray s = true := hts (.classLink RL 13 "java/lang/IndexOutOfBoundsException") (List.mem_of_getElem? (i := 1) rfl)
  have hk17 : (Cond.classLink RL 17 "java/lang/IllegalStateException").before ([.ref x6, .int p0, .int p1, .ref o] : List Value).toArray s = true := hts (.classLink RL 17 "java/lang/IllegalStateException") (List.mem_of_getElem? (i := 2) rfl)
  have hl := lv_entry ([.ref x6, .int p0, .int p1, .ref o]) (n := 5) (Nat.le_of_ble_eq_true rfl)
  rw [lg_entry_eq]
  generalize (lg_sl ([.ref x6, .int p0, .int p1, .ref o]) ++ List.replicate (5 - (lg_sl ([.ref x6, .int p0, .int p1, .ref o])).length) Slot.unset).toArray = ls at hl ⊢
  have hl : lv_has ls 5 [(0, .ref x6), (1, .int p0), (2, .int p1), (3, .ref o)] := hl
  refine lv_aload_n hx hb dL_park_0 rfl (lv_at hl 3 rfl) ?_
  refine lv_iconst (v := 0) hx hb dL_park_1 (by decide) ?_
  refine lv_aload_n hx hb dL_park_2 rfl (lv_at hl 0 rfl) ?_
  refine lv_iload_n hx hb dL_park_3 rfl (lv_at hl 1 rfl) ?_
  refine lv_iload_n hx hb dL_park_4 rfl (lv_at hl 2 rfl) ?_
  refine qx_i hG (vx_runV (As := [.int p0, .int p1]) (rest := [.int 0, .ref o]) ⟨hx, hb, hml, hown, hts⟩ (c_X6_park l hl9 (ql_g g o f) _ SA x6 p0 p1 h) (cwV 2 hts gL_park_X6_park rfl rfl rfl (by decide +kernel) ⟨(Nat.le_of_ble_eq_true rfl), (Nat.le_of_ble_eq_true rfl)⟩) ⟨qs_Pc.blind _ _ _ _, hG.recv hx6.1 hx6.2 (by decide) rfl, hG.pre _⟩ rfl rfl hl.1 rfl (lv_room (Nat.le_of_ble_eq_true rfl)) dL_park_5 ⟨by rw [Nat.zero_add]; exact hmR, by rw [Nat.zero_add]; exact hsR⟩) (fun E S1 H locs ce q9 hp hG h1 h2 h3 => ?_) (fun v S1 H locs h hG => ?_)
  · rcases hp with ⟨rfl, hp⟩ | ⟨rfl, hp⟩
    · skip
      refine vx_catch (own := RL) (name := "java/lang/IndexOutOfBoundsException") hown [] ⟨0, 10, 13, 13⟩ [⟨0, 10, 17, 17⟩] (by rw [htab]; rfl) (fun z hz => absurd hz List.not_mem_nil) (by rfl) (by decide) hk13 (hG.cast (q := ("java/lang/IndexOutOfBoundsException", "java/lang/IndexOutOfBoundsException")) (by decide)) h1 h2 h3 ?_
      refine lv_astore (lv' := [(4, .ref q9), (0, .ref x6), (1, .int p0), (2, .int p1), (3, .ref o)]) hx hb dL_park_13 hl (by decide) rfl (fun ls hl => ?_)
      refine lv_iconst (v := 1) hx hb dL_park_15 (by decide) ?_
      refine vx_ret ?_
      exact ql_e hx hb hr hlk hG hp (by rw [Nat.zero_add]; exact Nat.le_refl _) (by rw [Nat.zero_add]; exact Nat.le_refl _) dL_park_16
    · skip
      refine vx_catch (own := RL) (name := "java/lang/IllegalStateException") hown [⟨0, 10, 13, 13⟩] ⟨0, 10, 17, 17⟩ [] (by rw [htab]; rfl) (fun z hz => (List.mem_cons.mp hz).elim (fun e => by subst e; exact Or.inr ⟨by decide, _, hk13, hG.nocast (q := ("java/lang/IllegalStateException", "java/lang/IndexOutOfBoundsException")) (by decide)⟩) (fun hz => absurd hz List.not_mem_nil)) (by rfl) (by decide) hk17 (hG.cast (q := ("java/lang/IllegalStateException", "java/lang/IllegalStateException")) (by decide)) h1 h2 h3 ?_
      refine lv_astore (lv' := [(4, .ref q9), (0, .ref x6), (1, .int p0), (2, .int p1), (3, .ref o)]) hx hb dL_park_17 hl (by decide) rfl (fun ls hl => ?_)
      refine lv_iconst (v := 2) hx hb dL_park_19 (by decide) ?_
      refine vx_ret ?_
      exact ql_e hx hb hr hlk hG hp (by rw [Nat.zero_add]; exact Nat.le_refl _) (by rw [Nat.zero_add]; exact Nat.le_refl _) dL_park_20
  · refine lv_i2l hx hb dL_park_8 rfl ?_
    refine ql_last hx hb hG dL_park_9 (fun H locs hG => ?_)
    refine lv_goto (tgt := 21) hx hb dL_park_10 (by decide) ?_
    refine lv_iconst (v := 0) hx hb dL_park_21 (by decide) ?_
    refine vx_ret ?_
    exact ql_e hx hb hr hlk hG h (by rw [Nat.zero_add]; exact Nat.le_refl _) (by rw [Nat.zero_add]; exact Nat.le_refl _) dL_park_22
set_option maxHeartbeats 4000000 in
set_option maxRecDepth 100000 in
theorem c_L_book (l : Launch) (hl9 : l.stackTraces = false) (g : qs_G) (o : Nat) (f : Nat → Int64) (sz : Nat) (SA : qs_S) (x6 : Nat) (p0 : Int32) (p1 : Int32) (p2 : Int32) {mc ms : Nat} {post : Int32 → qs_S → (Nat → Int64) → Prop} (hx6 : x6 ∈ qs_L SA ∧ qs_K SA x6 = 6) (h : wp_X6_book g.2.2.2.2.2.2.1 g.2.2.2.2.2.2.2 mc ms (fun (v : Int32) (S : qs_S) => post 0 S (vp_updL f (0 : Int32).toNatClampNeg v.toInt64)) (fun (E : String) (S : qs_S) => (E = "java/lang/IndexOutOfBoundsException" ∧ post 1 S f) ∨ (E = "java/lang/IllegalArgumentException" ∧ post 2 S f) ∨ (E = "java/lang/IllegalStateException" ∧ post 3 S f)) SA x6 p0 p1 p2) : vx_Met l yL_book wsL_book ({ frames := 9, cells := mc, slots := ms, locals := 157 } : Room) (qs_Pc (ql_g g o f) sz SA [.ref x6, .int p0, .int p1, .int p2, .ref o]) (ql_Qi g o (qs_F (ql_g g o f) SA sz) post) (qs_X (ql_g g o f) (qs_F (ql_g g o f) SA sz) (fun _ _ => False)) mc ms (qs_F (ql_g g o f) SA sz) := by
  refine vx_ofWH (cc := cL_book) (maxL := 6) (ret := (some .int)) (hh := [(0, 12, 15, 13), (0, 12, 19, 15), (0, 12, 23, 17)]) (by decide +kernel) rfl ?_
  intro p e s m args below meth c s₁ B hml hv
  obtain ⟨rfl, hsz, hG⟩ := qs_Gd.start hv
  subst hsz
  have hx := B.exec
  have hb := B.bytes
  have hr := B.returns
  have hts := atoms_spec (ws := wsL_book) B.pre
  have hown : s.vm.findClass RL = some m.cls := findClass_of_methodNamed B.named
  have hlk := B.notSynchronized
  have htab : c.exceptionTable.toList = tableOf [(0, 12, 15, 13), (0, 12, 19, 15), (0, 12, 23, 17)] := vx_table (x := yL_book) B (hts _ List.mem_cons_self)
  have hmR : mc ≤ (headSpec wsL_book ({ frames := 9, cells := mc, slots := ms, locals := 157 } : Room)).room.cells := Nat.le_refl _
  have hsR : ms ≤ (headSpec wsL_book ({ frames := 9, cells := mc, slots := ms, locals := 157 } : Room)).room.slots := Nat.le_refl _
  have hk13 : (Cond.classLink RL 13 "java/lang/IndexOutOfBoundsException").before ([.ref x6, .int p0, .int p1, .int p2, .ref o] : List Value).toArray s = true := hts (.classLink RL 13 "java/lang/IndexOutOfBoundsException") (List.mem_of_getElem? (i := 1) rfl)
  have hk15 : (Cond.classLink RL 15 "java/lang/IllegalArgumentException").before ([.ref x6, .int p0, .int p1, .int p2, .ref o] : List Value).toArray s = true := hts (.classLink RL 15 "java/lang/IllegalArgumentException") (List.mem_of_getElem? (i := 2) rfl)
  have hk17 : (Cond.classLink RL 17 "java/lang/IllegalStateException").before ([.ref x6, .int p0, .int p1, .int p2, .ref o] : List Value).toArray s = true := hts (.classLink RL 17 "java/lang/IllegalStateException") (List.mem_of_getElem? (i := 3) rfl)
  have hl := lv_entry ([.ref x6, .int p0, .int p1, .int p2, .ref o]) (n := 6) (Nat.le_of_ble_eq_true rfl)
  rw [lg_entry_eq]
  generalize (lg_sl ([.ref x6, .int p0, .int p1, .int p2, .ref o]) ++ List.replicate (6 - (lg_sl ([.ref x6, .int p0, .int p1, .int p2, .ref o])).length) Slot.unset).toArray = ls at hl ⊢
  have hl : lv_has ls 6 [(0, .ref x6), (1, .int p0), (2, .int p1), (3, .int p2), (4, .ref o)] := hl
  refine lv_aload hx hb dL_book_0 (lv_at hl 4 rfl) ?_
  refine lv_iconst (v := 0) hx hb dL_book_2 (by decide) ?_
  refine lv_aload_n hx hb dL_book_3 rfl (lv_at hl 0 rfl) ?_
  refine lv_iload_n hx hb dL_book_4 rfl (lv_at hl 1 rfl) ?_
  refine lv_iload_n hx hb dL_book_5 rfl (lv_at hl 2 rfl) ?_
  refine lv_iload_n hx hb dL_book_6 rfl (lv_at hl 3 rfl) ?_
  refine qx_i hG (vx_runV (As := [.int p0, .int p1, .int p2]) (rest := [.int 0, .ref o]) ⟨hx, hb, hml, hown, hts⟩ (c_X6_book l hl9 (ql_g g o f) _ SA x6 p0 p1 p2 h) (cwV 3 hts gL_book_X6_book rfl rfl rfl (by decide +kernel) ⟨(Nat.le_of_ble_eq_true rfl), (Nat.le_of_ble_eq_true rfl)⟩) ⟨qs_Pc.blind _ _ _ _, hG.recv hx6.1 hx6.2 (by decide) rfl, hG.pre _⟩ rfl rfl hl.1 rfl (lv_room (Nat.le_of_ble_eq_true rfl)) dL_book_7 ⟨by rw [Nat.zero_add]; exact hmR, by rw [Nat.zero_add]; exact hsR⟩) (fun E S1 H locs ce q9 hp hG h1 h2 h3 => ?_) (fun v S1 H locs h hG => ?_)
  · rcases hp with ⟨rfl, hp⟩ | ⟨rfl, hp⟩ | ⟨rfl, hp⟩
    · skip
      refine vx_catch (own := RL) (name := "java/lang/IndexOutOfBoundsException") hown [] ⟨0, 12, 15, 13⟩ [⟨0, 12, 19, 15⟩, ⟨0, 12, 23, 17⟩] (by rw [htab]; rfl) (fun z hz => absurd hz List.not_mem_nil) (by rfl) (by decide) hk13 (hG.cast (q := ("java/lang/IndexOutOfBoundsException", "java/lang/IndexOutOfBoundsException")) (by decide)) h1 h2 h3 ?_
      refine lv_astore (lv' := [(5, .ref q9), (0, .ref x6), (1, .int p0), (2, .int p1), (3, .int p2), (4, .ref o)]) hx hb dL_book_15 hl (by decide) rfl (fun ls hl => ?_)
      refine lv_iconst (v := 1) hx hb dL_book_17 (by decide) ?_
      refine vx_ret ?_
      exact ql_e hx hb hr hlk hG hp (by rw [Nat.zero_add]; exact Nat.le_refl _) (by rw [Nat.zero_add]; exact Nat.le_refl _) dL_book_18
    · skip
      refine vx_catch (own := RL) (name := "java/lang/IllegalArgumentException") hown [⟨0, 12, 15, 13⟩] ⟨0, 12, 19, 15⟩ [⟨0, 12, 23, 17⟩] (by rw [htab]; rfl) (fun z hz => (List.mem_cons.mp hz).elim (fun e => by subst e; exact Or.inr ⟨by decide, _, hk13, hG.nocast (q := ("java/lang/IllegalArgumentException", "java/lang/IndexOutOfBoundsException")) (by decide)⟩) (fun hz => absurd hz List.not_mem_nil)) (by rfl) (by decide) hk15 (hG.cast (q := ("java/lang/IllegalArgumentException", "java/lang/IllegalArgumentException")) (by decide)) h1 h2 h3 ?_
      refine lv_astore (lv' := [(5, .ref q9), (0, .ref x6), (1, .int p0), (2, .int p1), (3, .int p2), (4, .ref o)]) hx hb dL_book_19 hl (by decide) rfl (fun ls hl => ?_)
      refine lv_iconst (v := 2) hx hb dL_book_21 (by decide) ?_
      refine vx_ret ?_
      exact ql_e hx hb hr hlk hG hp (by rw [Nat.zero_add]; exact Nat.le_refl _) (by rw [Nat.zero_add]; exact Nat.le_refl _) dL_book_22
    · skip
      refine vx_catch (own := RL) (name := "java/lang/IllegalStateException") hown [⟨0, 12, 15, 13⟩, ⟨0, 12, 19, 15⟩] ⟨0, 12, 23, 17⟩ [] (by rw [htab]; rfl) (fun z hz => (List.mem_cons.mp hz).elim (fun e => by subst e; exact Or.inr ⟨by decide, _, hk13, hG.nocast (q := ("java/lang/IllegalStateException", "java/lang/IndexOutOfBoundsException")) (by decide)⟩) (fun hz => (List.mem_cons.mp hz).elim (fun e => by subst e; exact Or.inr ⟨by decide, _, hk15, hG.nocast (q := ("java/lang/IllegalStateException", "java/lang/IllegalArgumentException")) (by decide)⟩) (fun hz => absurd hz List.not_mem_nil))) (by rfl) (by decide) hk17 (hG.cast (q := ("java/lang/IllegalStateException", "java/lang/IllegalStateException")) (by decide)) h1 h2 h3 ?_
      refine lv_astore (lv' := [(5, .ref q9), (0, .ref x6), (1, .int p0), (2, .int p1), (3, .int p2), (4, .ref o)]) hx hb dL_book_23 hl (by decide) rfl (fun ls hl => ?_)
      refine lv_iconst (v := 3) hx hb dL_book_25 (by decide) ?_
      refine vx_ret ?_
      exact ql_e hx hb hr hlk hG hp (by rw [Nat.zero_add]; exact Nat.le_refl _) (by rw [Nat.zero_add]; exact Nat.le_refl _) dL_book_26
  · refine lv_i2l hx hb dL_book_10 rfl ?_
    refine ql_last hx hb hG dL_book_11 (fun H locs hG => ?_)
    refine lv_goto (tgt := 27) hx hb dL_book_12 (by decide) ?_
    refine lv_iconst (v := 0) hx hb dL_book_27 (by decide) ?_
    refine vx_ret ?_
    exact ql_e hx hb hr hlk hG h (by rw [Nat.zero_add]; exact Nat.le_refl _) (by rw [Nat.zero_add]; exact Nat.le_refl _) dL_book_28
set_option maxHeartbeats 4000000 in
set_option maxRecDepth 100000 in
theorem c_L_unbook (l : Launch) (hl9 : l.stackTraces = false) (g : qs_G) (o : Nat) (f : Nat → Int64) (sz : Nat) (SA : qs_S) (x6 : Nat) (p0 : Int32) {mc ms : Nat} {post : Int32 → qs_S → (Nat → Int64) → Prop} (hx6 : x6 ∈ qs_L SA ∧ qs_K SA x6 = 6) (h : wp_X6_unbook g.2.2.2.2.2.2.1 g.2.2.2.2.2.2.2 mc ms (fun (v : Int32) (S : qs_S) => post 0 S (vp_updL f (0 : Int32).toNatClampNeg v.toInt64)) (fun (E : String) (S : qs_S) => (E = "java/lang/IndexOutOfBoundsException" ∧ post 1 S f) ∨ (E = "java/lang/IllegalStateException" ∧ post 2 S f)) SA x6 p0) : vx_Met l yL_unbook wsL_unbook ({ frames := 9, cells := mc, slots := ms, locals := 155 } : Room) (qs_Pc (ql_g g o f) sz SA [.ref x6, .int p0, .ref o]) (ql_Qi g o (qs_F (ql_g g o f) SA sz) post) (qs_X (ql_g g o f) (qs_F (ql_g g o f) SA sz) (fun _ _ => False)) mc ms (qs_F (ql_g g o f) SA sz) := by
  refine vx_ofWH (cc := cL_unbook) (maxL := 4) (ret := (some .int)) (hh := [(0, 9, 12, 13), (0, 9, 15, 17)]) (by decide +kernel) rfl ?_
  intro p e s m args below meth c s₁ B hml hv
  obtain ⟨rfl, hsz, hG⟩ := qs_Gd.start hv
  subst hsz
  have hx := B.exec
  have hb := B.bytes
  have hr := B.returns
  have hts := atoms_spec (ws := wsL_unbook) B.pre
  have hown : s.vm.findClass RL = some m.cls := findClass_of_methodNamed B.named
  have hlk := B.notSynchronized
  have htab : c.exceptionTable.toList = tableOf [(0, 9, 12, 13), (0, 9, 15, 17)] := vx_table (x := yL_unbook) B (hts _ List.mem_cons_self)
  have hmR : mc ≤ (headSpec wsL_unbook ({ frames := 9, cells := mc, slots := ms, locals := 155 } : Room)).room.cells := Nat.le_refl _
  have hsR : ms ≤ (headSpec wsL_unbook ({ frames := 9, cells := mc, slots := ms, locals := 155 } : Room)).room.slots := Nat.le_refl _
  have hk13 : (Cond.classLink RL 13 "java/lang/IndexOutOfBoundsException").before ([.ref x6, .int p0, .ref o] : List Value).toArray s = true := hts (.classLink RL 13 "java/lang/IndexOutOfBoundsException") (List.mem_of_getElem? (i := 1) rfl)
  have hk17 : (Cond.classLink RL 17 "java/lang/IllegalStateException").before ([.ref x6, .int p0, .ref o] : List Value).toArray s = true := hts (.classLink RL 17 "java/lang/IllegalStateException") (List.mem_of_getElem? (i := 2) rfl)
  have hl := lv_entry ([.ref x6, .int p0, .ref o]) (n := 4) (Nat.le_of_ble_eq_true rfl)
  rw [lg_entry_eq]
  generalize (lg_sl ([.ref x6, .int p0, .ref o]) ++ List.replicate (4 - (lg_sl ([.ref x6, .int p0, .ref o])).length) Slot.unset).toArray = ls at hl ⊢
  have hl : lv_has ls 4 [(0, .ref x6), (1, .int p0), (2, .ref o)] := hl
  refine lv_aload_n hx hb dL_unbook_0 rfl (lv_at hl 2 rfl) ?_
  refine lv_iconst (v := 0) hx hb dL_unbook_1 (by decide) ?_
  refine lv_aload_n hx hb dL_unbook_2 rfl (lv_at hl 0 rfl) ?_
  refine lv_iload_n hx hb dL_unbook_3 rfl (lv_at hl 1 rfl) ?_
  refine qx_i hG (vx_runV (As := [.int p0]) (rest := [.int 0, .ref o]) ⟨hx, hb, hml, hown, hts⟩ (c_X6_unbook l hl9 (ql_g g o f) _ SA x6 p0 h) (cwV 1 hts gL_unbook_X6_unbook rfl rfl rfl (by decide +kernel) ⟨(Nat.le_of_ble_eq_true rfl), (Nat.le_of_ble_eq_true rfl)⟩) ⟨qs_Pc.blind _ _ _ _, hG.recv hx6.1 hx6.2 (by decide) rfl, hG.pre _⟩ rfl rfl hl.1 rfl (lv_room (Nat.le_of_ble_eq_true rfl)) dL_unbook_4 ⟨by rw [Nat.zero_add]; exact hmR, by rw [Nat.zero_add]; exact hsR⟩) (fun E S1 H locs ce q9 hp hG h1 h2 h3 => ?_) (fun v S1 H locs h hG => ?_)
  · rcases hp with ⟨rfl, hp⟩ | ⟨rfl, hp⟩
    · skip
      refine vx_catch (own := RL) (name := "java/lang/IndexOutOfBoundsException") hown [] ⟨0, 9, 12, 13⟩ [⟨0, 9, 15, 17⟩] (by rw [htab]; rfl) (fun z hz => absurd hz List.not_mem_nil) (by rfl) (by decide) hk13 (hG.cast (q := ("java/lang/IndexOutOfBoundsException", "java/lang/IndexOutOfBoundsException")) (by decide)) h1 h2 h3 ?_
      refine lv_astore_n (lv' := [(3, .ref q9), (0, .ref x6), (1, .int p0), (2, .ref o)]) hx hb dL_unbook_12 rfl hl (by decide) rfl (fun ls hl => ?_)
      refine lv_iconst (v := 1) hx hb dL_unbook_13 (by decide) ?_
      refine vx_ret ?_
      exact ql_e hx hb hr hlk hG hp (by rw [Nat.zero_add]; exact Nat.le_refl _) (by rw [Nat.zero_add]; exact Nat.le_refl _) dL_unbook_14
    · skip
      refine vx_catch (own := RL) (name := "java/lang/IllegalStateException") hown [⟨0, 9, 12, 13⟩] ⟨0, 9, 15, 17⟩ [] (by rw [htab]; rfl) (fun z hz => (List.mem_cons.mp hz).elim (fun e => by subst e; exact Or.inr ⟨by decide, _, hk13, hG.nocast (q := ("java/lang/IllegalStateException", "java/lang/IndexOutOfBoundsException")) (by decide)⟩) (fun hz => absurd hz List.not_mem_nil)) (by rfl) (by decide) hk17 (hG.cast (q := ("java/lang/IllegalStateException", "java/lang/IllegalStateException")) (by decide)) h1 h2 h3 ?_
      refine lv_astore_n (lv' := [(3, .ref q9), (0, .ref x6), (1, .int p0), (2, .ref o)]) hx hb dL_unbook_15 rfl hl (by decide) rfl (fun ls hl => ?_)
      refine lv_iconst (v := 2) hx hb dL_unbook_16 (by decide) ?_
      refine vx_ret ?_
      exact ql_e hx hb hr hlk hG hp (by rw [Nat.zero_add]; exact Nat.le_refl _) (by rw [Nat.zero_add]; exact Nat.le_refl _) dL_unbook_17
  · refine lv_i2l hx hb dL_unbook_7 rfl ?_
    refine ql_last hx hb hG dL_unbook_8 (fun H locs hG => ?_)
    refine lv_goto (tgt := 18) hx hb dL_unbook_9 (by decide) ?_
    refine lv_iconst (v := 0) hx hb dL_unbook_18 (by decide) ?_
    refine vx_ret ?_
    exact ql_e hx hb hr hlk hG h (by rw [Nat.zero_add]; exact Nat.le_refl _) (by rw [Nat.zero_add]; exact Nat.le_refl _) dL_unbook_19
set_option maxHeartbeats 4000000 in
set_option maxRecDepth 100000 in
theorem c_L_advance (l : Launch) (hl9 : l.stackTraces = false) (g : qs_G) (o : Nat) (f : Nat → Int64) (sz : Nat) (SA : qs_S) (x6 : Nat) (p0 : Int32) {mc ms : Nat} {post : Int32 → qs_S → (Nat → Int64) → Prop} (hx6 : x6 ∈ qs_L SA ∧ qs_K SA x6 = 6) (h : wp_X6_advance g.2.2.2.2.2.2.1 g.2.2.2.2.2.2.2 mc ms (fun (v : Int32) (S : qs_S) => post 0 S (vp_updL f (0 : Int32).toNatClampNeg v.toInt64)) (fun (E : String) (S : qs_S) => (E = "java/lang/IllegalArgumentException" ∧ post 1 S f) ∨ (E = "java/lang/IllegalStateException" ∧ post 2 S f)) SA x6 p0) : vx_Met l yL_advance wsL_advance ({ frames := 7, cells := mc, slots := ms, locals := 114 } : Room) (qs_Pc (ql_g g o f) sz SA [.ref x6, .int p0, .ref o]) (ql_Qi g o (qs_F (ql_g g o f) SA sz) post) (qs_X (ql_g g o f) (qs_F (ql_g g o f) SA sz) (fun _ _ => False)) mc ms (qs_F (ql_g g o f) SA sz) := by
  refine vx_ofWH (cc := cL_advance) (maxL := 4) (ret := (some .int)) (hh := [(0, 9, 12, 15), (0, 9, 15, 17)]) (by decide +kernel) rfl ?_
  intro p e s m args below meth c s₁ B hml hv
  obtain ⟨rfl, hsz, hG⟩ := qs_Gd.start hv
  subst hsz
  have hx := B.exec
  have hb := B.bytes
  have hr := B.returns
  have hts := atoms_spec (ws := wsL_advance) B.pre
  have hown : s.vm.findClass RL = some m.cls := findClass_of_methodNamed B.named
  have hlk := B.notSynchronized
  have htab : c.exceptionTable.toList = tableOf [(0, 9, 12, 15), (0, 9, 15, 17)] := vx_table (x := yL_advance) B (hts _ List.mem_cons_self)
  have hmR : mc ≤ (headSpec wsL_advance ({ frames := 7, cells := mc, slots := ms, locals := 114 } : Room)).room.cells := Nat.le_refl _
  have hsR : ms ≤ (headSpec wsL_advance ({ frames := 7, cells := mc, slots := ms, locals := 114 } : Room)).room.slots := Nat.le_refl _
  have hk15 : (Cond.classLink RL 15 "java/lang/IllegalArgumentException").before ([.ref x6, .int p0, .ref o] : List Value).toArray s = true := hts (.classLink RL 15 "java/lang/IllegalArgumentException") (List.mem_of_getElem? (i := 1) rfl)
  have hk17 : (Cond.classLink RL 17 "java/lang/IllegalStateException").before ([.ref x6, .int p0, .ref o] : List Value).toArray s = true := hts (.classLink RL 17 "java/lang/IllegalStateException") (List.mem_of_getElem? (i := 2) rfl)
  have hl := lv_entry ([.ref x6, .int p0, .ref o]) (n := 4) (Nat.le_of_ble_eq_true rfl)
  rw [lg_entry_eq]
  generalize (lg_sl ([.ref x6, .int p0, .ref o]) ++ List.replicate (4 - (lg_sl ([.ref x6, .int p0, .ref o])).length) Slot.unset).toArray = ls at hl ⊢
  have hl : lv_has ls 4 [(0, .ref x6), (1, .int p0), (2, .ref o)] := hl
  refine lv_aload_n hx hb dL_advance_0 rfl (lv_at hl 2 rfl) ?_
  refine lv_iconst (v := 0) hx hb dL_advance_1 (by decide) ?_
  refine lv_aload_n hx hb dL_advance_2 rfl (lv_at hl 0 rfl) ?_
  refine lv_iload_n hx hb dL_advance_3 rfl (lv_at hl 1 rfl) ?_
  refine qx_i hG (vx_runV (As := [.int p0]) (rest := [.int 0, .ref o]) ⟨hx, hb, hml, hown, hts⟩ (c_X6_advance l hl9 (ql_g g o f) _ SA x6 p0 h) (cwV 1 hts gL_advance_X6_advance rfl rfl rfl (by decide +kernel) ⟨(Nat.le_of_ble_eq_true rfl), (Nat.le_of_ble_eq_true rfl)⟩) ⟨qs_Pc.blind _ _ _ _, hG.recv hx6.1 hx6.2 (by decide) rfl, hG.pre _⟩ rfl rfl hl.1 rfl (lv_room (Nat.le_of_ble_eq_true rfl)) dL_advance_4 ⟨by rw [Nat.zero_add]; exact hmR, by rw [Nat.zero_add]; exact hsR⟩) (fun E S1 H locs ce q9 hp hG h1 h2 h3 => ?_) (fun v S1 H locs h hG => ?_)
  · rcases hp with ⟨rfl, hp⟩ | ⟨rfl, hp⟩
    · skip
      refine vx_catch (own := RL) (name := "java/lang/IllegalArgumentException") hown [] ⟨0, 9, 12, 15⟩ [⟨0, 9, 15, 17⟩] (by rw [htab]; rfl) (fun z hz => absurd hz List.not_mem_nil) (by rfl) (by decide) hk15 (hG.cast (q := ("java/lang/IllegalArgumentException", "java/lang/IllegalArgumentException")) (by decide)) h1 h2 h3 ?_
      refine lv_astore_n (lv' := [(3, .ref q9), (0, .ref x6), (1, .int p0), (2, .ref o)]) hx hb dL_advance_12 rfl hl (by decide) rfl (fun ls hl => ?_)
      refine lv_iconst (v := 1) hx hb dL_advance_13 (by decide) ?_
      refine vx_ret ?_
      exact ql_e hx hb hr hlk hG hp (by rw [Nat.zero_add]; exact Nat.le_refl _) (by rw [Nat.zero_add]; exact Nat.le_refl _) dL_advance_14
    · skip
      refine vx_catch (own := RL) (name := "java/lang/IllegalStateException") hown [⟨0, 9, 12, 15⟩] ⟨0, 9, 15, 17⟩ [] (by rw [htab]; rfl) (fun z hz => (List.mem_cons.mp hz).elim (fun e => by subst e; exact Or.inr ⟨by decide, _, hk15, hG.nocast (q := ("java/lang/IllegalStateException", "java/lang/IllegalArgumentException")) (by decide)⟩) (fun hz => absurd hz List.not_mem_nil)) (by rfl) (by decide) hk17 (hG.cast (q := ("java/lang/IllegalStateException", "java/lang/IllegalStateException")) (by decide)) h1 h2 h3 ?_
      refine lv_astore_n (lv' := [(3, .ref q9), (0, .ref x6), (1, .int p0), (2, .ref o)]) hx hb dL_advance_15 rfl hl (by decide) rfl (fun ls hl => ?_)
      refine lv_iconst (v := 2) hx hb dL_advance_16 (by decide) ?_
      refine vx_ret ?_
      exact ql_e hx hb hr hlk hG hp (by rw [Nat.zero_add]; exact Nat.le_refl _) (by rw [Nat.zero_add]; exact Nat.le_refl _) dL_advance_17
  · refine lv_i2l hx hb dL_advance_7 rfl ?_
    refine ql_last hx hb hG dL_advance_8 (fun H locs hG => ?_)
    refine lv_goto (tgt := 18) hx hb dL_advance_9 (by decide) ?_
    refine lv_iconst (v := 0) hx hb dL_advance_18 (by decide) ?_
    refine vx_ret ?_
    exact ql_e hx hb hr hlk hG h (by rw [Nat.zero_add]; exact Nat.le_refl _) (by rw [Nat.zero_add]; exact Nat.le_refl _) dL_advance_19
set_option maxHeartbeats 4000000 in
set_option maxRecDepth 100000 in
theorem c_L_whereIs (l : Launch) (hl9 : l.stackTraces = false) (g : qs_G) (o : Nat) (f : Nat → Int64) (sz : Nat) (SA : qs_S) (x6 : Nat) (p0 : Int32) {mc ms : Nat} {post : Int32 → qs_S → (Nat → Int64) → Prop} (hx6 : x6 ∈ qs_L SA ∧ qs_K SA x6 = 6) (h : wp_X6_whereIs g.2.2.2.2.2.2.1 g.2.2.2.2.2.2.2 mc ms (fun (v : Int32) (S : qs_S) => post 0 S (vp_updL f (0 : Int32).toNatClampNeg v.toInt64)) (fun (E : String) (S : qs_S) => (E = "java/lang/IndexOutOfBoundsException" ∧ post 1 S f)) SA x6 p0) : vx_Met l yL_whereIs wsL_whereIs ({ frames := 9, cells := mc, slots := ms, locals := 154 } : Room) (qs_Pc (ql_g g o f) sz SA [.ref x6, .int p0, .ref o]) (ql_Qi g o (qs_F (ql_g g o f) SA sz) post) (qs_X (ql_g g o f) (qs_F (ql_g g o f) SA sz) (fun _ _ => False)) mc ms (qs_F (ql_g g o f) SA sz) := by
  refine vx_ofWH (cc := cL_whereIs) (maxL := 4) (ret := (some .int)) (hh := [(0, 9, 12, 13)]) (by decide +kernel) rfl ?_
  intro p e s m args below meth c s₁ B hml hv
  obtain ⟨rfl, hsz, hG⟩ := qs_Gd.start hv
  subst hsz
  have hx := B.exec
  have hb := B.bytes
  have hr := B.returns
  have hts := atoms_spec (ws := wsL_whereIs) B.pre
  have hown : s.vm.findClass RL = some m.cls := findClass_of_methodNamed B.named
  have hlk := B.notSynchronized
  have htab : c.exceptionTable.toList = tableOf [(0, 9, 12, 13)] := vx_table (x := yL_whereIs) B (hts _ List.mem_cons_self)
  have hmR : mc ≤ (headSpec wsL_whereIs ({ frames := 9, cells := mc, slots := ms, locals := 154 } : Room)).room.cells := Nat.le_refl _
  have hsR : ms ≤ (headSpec wsL_whereIs ({ frames := 9, cells := mc, slots := ms, locals := 154 } : Room)).room.slots := Nat.le_refl _
  have hk13 : (Cond.classLink RL 13 "java/lang/IndexOutOfBoundsException").before ([.ref x6, .int p0, .ref o] : List Value).toArray s = true := hts (.classLink RL 13 "java/lang/IndexOutOfBoundsException") (List.mem_of_getElem? (i := 1) rfl)
  have hl := lv_entry ([.ref x6, .int p0, .ref o]) (n := 4) (Nat.le_of_ble_eq_true rfl)
  rw [lg_entry_eq]
  generalize (lg_sl ([.ref x6, .int p0, .ref o]) ++ List.replicate (4 - (lg_sl ([.ref x6, .int p0, .ref o])).length) Slot.unset).toArray = ls at hl ⊢
  have hl : lv_has ls 4 [(0, .ref x6), (1, .int p0), (2, .ref o)] := hl
  refine lv_aload_n hx hb dL_whereIs_0 rfl (lv_at hl 2 rfl) ?_
  refine lv_iconst (v := 0) hx hb dL_whereIs_1 (by decide) ?_
  refine lv_aload_n hx hb dL_whereIs_2 rfl (lv_at hl 0 rfl) ?_
  refine lv_iload_n hx hb dL_whereIs_3 rfl (lv_at hl 1 rfl) ?_
  refine qx_i hG (vx_runV (As := [.int p0]) (rest := [.int 0, .ref o]) ⟨hx, hb, hml, hown, hts⟩ (c_X6_whereIs l hl9 (ql_g g o f) _ SA x6 p0 h) (cwV 1 hts gL_whereIs_X6_whereIs rfl rfl rfl (by decide +kernel) ⟨(Nat.le_of_ble_eq_true rfl), (Nat.le_of_ble_eq_true rfl)⟩) ⟨qs_Pc.blind _ _ _ _, hG.recv hx6.1 hx6.2 (by decide) rfl, hG.pre _⟩ rfl rfl hl.1 rfl (lv_room (Nat.le_of_ble_eq_true rfl)) dL_whereIs_4 ⟨by rw [Nat.zero_add]; exact hmR, by rw [Nat.zero_add]; exact hsR⟩) (fun E S1 H locs ce q9 hp hG h1 h2 h3 => ?_) (fun v S1 H locs h hG => ?_)
  · obtain ⟨rfl, hp⟩ := hp
    refine vx_catch (own := RL) (name := "java/lang/IndexOutOfBoundsException") hown [] ⟨0, 9, 12, 13⟩ [] (by rw [htab]; rfl) (fun z hz => absurd hz List.not_mem_nil) (by rfl) (by decide) hk13 (hG.cast (q := ("java/lang/IndexOutOfBoundsException", "java/lang/IndexOutOfBoundsException")) (by decide)) h1 h2 h3 ?_
    refine lv_astore_n (lv' := [(3, .ref q9), (0, .ref x6), (1, .int p0), (2, .ref o)]) hx hb dL_whereIs_12 rfl hl (by decide) rfl (fun ls hl => ?_)
    refine lv_iconst (v := 1) hx hb dL_whereIs_13 (by decide) ?_
    refine vx_ret ?_
    exact ql_e hx hb hr hlk hG hp (by rw [Nat.zero_add]; exact Nat.le_refl _) (by rw [Nat.zero_add]; exact Nat.le_refl _) dL_whereIs_14
  · refine lv_i2l hx hb dL_whereIs_7 rfl ?_
    refine ql_last hx hb hG dL_whereIs_8 (fun H locs hG => ?_)
    refine lv_goto (tgt := 15) hx hb dL_whereIs_9 (by decide) ?_
    refine lv_iconst (v := 0) hx hb dL_whereIs_15 (by decide) ?_
    refine vx_ret ?_
    exact ql_e hx hb hr hlk hG h (by rw [Nat.zero_add]; exact Nat.le_refl _) (by rw [Nat.zero_add]; exact Nat.le_refl _) dL_whereIs_16
set_option maxHeartbeats 4000000 in
set_option maxRecDepth 100000 in
theorem c_L_whereByLog (l : Launch) (hl9 : l.stackTraces = false) (g : qs_G) (o : Nat) (f : Nat → Int64) (sz : Nat) (SA : qs_S) (x6 : Nat) (p0 : Int32) {mc ms : Nat} {post : Int32 → qs_S → (Nat → Int64) → Prop} (hx6 : x6 ∈ qs_L SA ∧ qs_K SA x6 = 6) (h : wp_X6_whereByLog g.2.2.2.2.2.2.1 g.2.2.2.2.2.2.2 mc ms (fun (v : Int32) (S : qs_S) => post 0 S (vp_updL f (0 : Int32).toNatClampNeg v.toInt64)) (fun (E : String) (S : qs_S) => (E = "java/lang/IndexOutOfBoundsException" ∧ post 1 S f)) SA x6 p0) : vx_Met l yL_whereByLog wsL_whereByLog ({ frames := 9, cells := mc, slots := ms, locals := 155 } : Room) (qs_Pc (ql_g g o f) sz SA [.ref x6, .int p0, .ref o]) (ql_Qi g o (qs_F (ql_g g o f) SA sz) post) (qs_X (ql_g g o f) (qs_F (ql_g g o f) SA sz) (fun _ _ => False)) mc ms (qs_F (ql_g g o f) SA sz) := by
  refine vx_ofWH (cc := cL_whereByLog) (maxL := 4) (ret := (some .int)) (hh := [(0, 9, 12, 13)]) (by decide +kernel) rfl ?_
  intro p e s m args below meth c s₁ B hml hv
  obtain ⟨rfl, hsz, hG⟩ := qs_Gd.start hv
  subst hsz
  have hx := B.exec
  have hb := B.bytes
  have hr := B.returns
  have hts := atoms_spec (ws := wsL_whereByLog) B.pre
  have hown : s.vm.findClass RL = some m.cls := findClass_of_methodNamed B.named
  have hlk := B.notSynchronized
  have htab : c.exceptionTable.toList = tableOf [(0, 9, 12, 13)] := vx_table (x := yL_whereByLog) B (hts _ List.mem_cons_self)
  have hmR : mc ≤ (headSpec wsL_whereByLog ({ frames := 9, cells := mc, slots := ms, locals := 155 } : Room)).room.cells := Nat.le_refl _
  have hsR : ms ≤ (headSpec wsL_whereByLog ({ frames := 9, cells := mc, slots := ms, locals := 155 } : Room)).room.slots := Nat.le_refl _
  have hk13 : (Cond.classLink RL 13 "java/lang/IndexOutOfBoundsException").before ([.ref x6, .int p0, .ref o] : List Value).toArray s = true := hts (.classLink RL 13 "java/lang/IndexOutOfBoundsException") (List.mem_of_getElem? (i := 1) rfl)
  have hl := lv_entry ([.ref x6, .int p0, .ref o]) (n := 4) (Nat.le_of_ble_eq_true rfl)
  rw [lg_entry_eq]
  generalize (lg_sl ([.ref x6, .int p0, .ref o]) ++ List.replicate (4 - (lg_sl ([.ref x6, .int p0, .ref o])).length) Slot.unset).toArray = ls at hl ⊢
  have hl : lv_has ls 4 [(0, .ref x6), (1, .int p0), (2, .ref o)] := hl
  refine lv_aload_n hx hb dL_whereByLog_0 rfl (lv_at hl 2 rfl) ?_
  refine lv_iconst (v := 0) hx hb dL_whereByLog_1 (by decide) ?_
  refine lv_aload_n hx hb dL_whereByLog_2 rfl (lv_at hl 0 rfl) ?_
  refine lv_iload_n hx hb dL_whereByLog_3 rfl (lv_at hl 1 rfl) ?_
  refine qx_i hG (vx_runV (As := [.int p0]) (rest := [.int 0, .ref o]) ⟨hx, hb, hml, hown, hts⟩ (c_X6_whereByLog l hl9 (ql_g g o f) _ SA x6 p0 h) (cwV 1 hts gL_whereByLog_X6_whereByLog rfl rfl rfl (by decide +kernel) ⟨(Nat.le_of_ble_eq_true rfl), (Nat.le_of_ble_eq_true rfl)⟩) ⟨qs_Pc.blind _ _ _ _, hG.recv hx6.1 hx6.2 (by decide) rfl, hG.pre _⟩ rfl rfl hl.1 rfl (lv_room (Nat.le_of_ble_eq_true rfl)) dL_whereByLog_4 ⟨by rw [Nat.zero_add]; exact hmR, by rw [Nat.zero_add]; exact hsR⟩) (fun E S1 H locs ce q9 hp hG h1 h2 h3 => ?_) (fun v S1 H locs h hG => ?_)
  · obtain ⟨rfl, hp⟩ := hp
    refine vx_catch (own := RL) (name := "java/lang/IndexOutOfBoundsException") hown [] ⟨0, 9, 12, 13⟩ [] (by rw [htab]; rfl) (fun z hz => absurd hz List.not_mem_nil) (by rfl) (by decide) hk13 (hG.cast (q := ("java/lang/IndexOutOfBoundsException", "java/lang/IndexOutOfBoundsException")) (by decide)) h1 h2 h3 ?_
    refine lv_astore_n (lv' := [(3, .ref q9), (0, .ref x6), (1, .int p0), (2, .ref o)]) hx hb dL_whereByLog_12 rfl hl (by decide) rfl (fun ls hl => ?_)
    refine lv_iconst (v := 1) hx hb dL_whereByLog_13 (by decide) ?_
    refine vx_ret ?_
    exact ql_e hx hb hr hlk hG hp (by rw [Nat.zero_add]; exact Nat.le_refl _) (by rw [Nat.zero_add]; exact Nat.le_refl _) dL_whereByLog_14
  · refine lv_i2l hx hb dL_whereByLog_7 rfl ?_
    refine ql_last hx hb hG dL_whereByLog_8 (fun H locs hG => ?_)
    refine lv_goto (tgt := 15) hx hb dL_whereByLog_9 (by decide) ?_
    refine lv_iconst (v := 0) hx hb dL_whereByLog_15 (by decide) ?_
    refine vx_ret ?_
    exact ql_e hx hb hr hlk hG h (by rw [Nat.zero_add]; exact Nat.le_refl _) (by rw [Nat.zero_add]; exact Nat.le_refl _) dL_whereByLog_16
set_option maxHeartbeats 4000000 in
set_option maxRecDepth 100000 in
theorem c_L_liftedBy (l : Launch) (hl9 : l.stackTraces = false) (g : qs_G) (o : Nat) (f : Nat → Int64) (sz : Nat) (SA : qs_S) (x6 : Nat) (p0 : Int32) {mc ms : Nat} {post : Int32 → qs_S → (Nat → Int64) → Prop} (hx6 : x6 ∈ qs_L SA ∧ qs_K SA x6 = 6) (h : wp_X6_liftedBy g.2.2.2.2.2.2.1 g.2.2.2.2.2.2.2 mc ms (fun (v : Int32) (S : qs_S) => post 0 S (vp_updL f (0 : Int32).toNatClampNeg v.toInt64)) (fun (E : String) (S : qs_S) => (E = "java/lang/IndexOutOfBoundsException" ∧ post 1 S f)) SA x6 p0) : vx_Met l yL_liftedBy wsL_liftedBy ({ frames := 9, cells := mc, slots := ms, locals := 153 } : Room) (qs_Pc (ql_g g o f) sz SA [.ref x6, .int p0, .ref o]) (ql_Qi g o (qs_F (ql_g g o f) SA sz) post) (qs_X (ql_g g o f) (qs_F (ql_g g o f) SA sz) (fun _ _ => False)) mc ms (qs_F (ql_g g o f) SA sz) := by
  refine vx_ofWH (cc := cL_liftedBy) (maxL := 4) (ret := (some .int)) (hh := [(0, 9, 12, 13)]) (by decide +kernel) rfl ?_
  intro p e s m args below meth c s₁ B hml hv
  obtain ⟨rfl, hsz, hG⟩ := qs_Gd.start hv
  subst hsz
  have hx := B.exec
  have hb := B.bytes
  have hr := B.returns
  have hts := atoms_spec (ws := wsL_liftedBy) B.pre
  have hown : s.vm.findClass RL = some m.cls := findClass_of_methodNamed B.named
  have hlk := B.notSynchronized
  have htab : c.exceptionTable.toList = tableOf [(0, 9, 12, 13)] := vx_table (x := yL_liftedBy) B (hts _ List.mem_cons_self)
  have hmR : mc ≤ (headSpec wsL_liftedBy ({ frames := 9, cells := mc, slots := ms, locals := 153 } : Room)).room.cells := Nat.le_refl _
  have hsR : ms ≤ (headSpec wsL_liftedBy ({ frames := 9, cells := mc, slots := ms, locals := 153 } : Room)).room.slots := Nat.le_refl _
  have hk13 : (Cond.classLink RL 13 "java/lang/IndexOutOfBoundsException").before ([.ref x6, .int p0, .ref o] : List Value).toArray s = true := hts (.classLink RL 13 "java/lang/IndexOutOfBoundsException") (List.mem_of_getElem? (i := 1) rfl)
  have hl := lv_entry ([.ref x6, .int p0, .ref o]) (n := 4) (Nat.le_of_ble_eq_true rfl)
  rw [lg_entry_eq]
  generalize (lg_sl ([.ref x6, .int p0, .ref o]) ++ List.replicate (4 - (lg_sl ([.ref x6, .int p0, .ref o])).length) Slot.unset).toArray = ls at hl ⊢
  have hl : lv_has ls 4 [(0, .ref x6), (1, .int p0), (2, .ref o)] := hl
  refine lv_aload_n hx hb dL_liftedBy_0 rfl (lv_at hl 2 rfl) ?_
  refine lv_iconst (v := 0) hx hb dL_liftedBy_1 (by decide) ?_
  refine lv_aload_n hx hb dL_liftedBy_2 rfl (lv_at hl 0 rfl) ?_
  refine lv_iload_n hx hb dL_liftedBy_3 rfl (lv_at hl 1 rfl) ?_
  refine qx_i hG (vx_runV (As := [.int p0]) (rest := [.int 0, .ref o]) ⟨hx, hb, hml, hown, hts⟩ (c_X6_liftedBy l hl9 (ql_g g o f) _ SA x6 p0 h) (cwV 1 hts gL_liftedBy_X6_liftedBy rfl rfl rfl (by decide +kernel) ⟨(Nat.le_of_ble_eq_true rfl), (Nat.le_of_ble_eq_true rfl)⟩) ⟨qs_Pc.blind _ _ _ _, hG.recv hx6.1 hx6.2 (by decide) rfl, hG.pre _⟩ rfl rfl hl.1 rfl (lv_room (Nat.le_of_ble_eq_true rfl)) dL_liftedBy_4 ⟨by rw [Nat.zero_add]; exact hmR, by rw [Nat.zero_add]; exact hsR⟩) (fun E S1 H locs ce q9 hp hG h1 h2 h3 => ?_) (fun v S1 H locs h hG => ?_)
  · obtain ⟨rfl, hp⟩ := hp
    refine vx_catch (own := RL) (name := "java/lang/IndexOutOfBoundsException") hown [] ⟨0, 9, 12, 13⟩ [] (by rw [htab]; rfl) (fun z hz => absurd hz List.not_mem_nil) (by rfl) (by decide) hk13 (hG.cast (q := ("java/lang/IndexOutOfBoundsException", "java/lang/IndexOutOfBoundsException")) (by decide)) h1 h2 h3 ?_
    refine lv_astore_n (lv' := [(3, .ref q9), (0, .ref x6), (1, .int p0), (2, .ref o)]) hx hb dL_liftedBy_12 rfl hl (by decide) rfl (fun ls hl => ?_)
    refine lv_iconst (v := 1) hx hb dL_liftedBy_13 (by decide) ?_
    refine vx_ret ?_
    exact ql_e hx hb hr hlk hG hp (by rw [Nat.zero_add]; exact Nat.le_refl _) (by rw [Nat.zero_add]; exact Nat.le_refl _) dL_liftedBy_14
  · refine lv_i2l hx hb dL_liftedBy_7 rfl ?_
    refine ql_last hx hb hG dL_liftedBy_8 (fun H locs hG => ?_)
    refine lv_goto (tgt := 15) hx hb dL_liftedBy_9 (by decide) ?_
    refine lv_iconst (v := 0) hx hb dL_liftedBy_15 (by decide) ?_
    refine vx_ret ?_
    exact ql_e hx hb hr hlk hG h (by rw [Nat.zero_add]; exact Nat.le_refl _) (by rw [Nat.zero_add]; exact Nat.le_refl _) dL_liftedBy_16
set_option maxHeartbeats 4000000 in
set_option maxRecDepth 100000 in
theorem c_L_bookedFor (l : Launch) (hl9 : l.stackTraces = false) (g : qs_G) (o : Nat) (f : Nat → Int64) (sz : Nat) (SA : qs_S) (x6 : Nat) (p0 : Int32) {mc ms : Nat} {post : Int32 → qs_S → (Nat → Int64) → Prop} (hx6 : x6 ∈ qs_L SA ∧ qs_K SA x6 = 6) (h : wp_X6_bookedFor g.2.2.2.2.2.2.1 g.2.2.2.2.2.2.2 mc ms (fun (v : Int32) (S : qs_S) => post 0 S (vp_updL f (0 : Int32).toNatClampNeg v.toInt64)) (fun (E : String) (S : qs_S) => (E = "java/lang/IndexOutOfBoundsException" ∧ post 1 S f)) SA x6 p0) : vx_Met l yL_bookedFor wsL_bookedFor ({ frames := 9, cells := mc, slots := ms, locals := 153 } : Room) (qs_Pc (ql_g g o f) sz SA [.ref x6, .int p0, .ref o]) (ql_Qi g o (qs_F (ql_g g o f) SA sz) post) (qs_X (ql_g g o f) (qs_F (ql_g g o f) SA sz) (fun _ _ => False)) mc ms (qs_F (ql_g g o f) SA sz) := by
  refine vx_ofWH (cc := cL_bookedFor) (maxL := 4) (ret := (some .int)) (hh := [(0, 9, 12, 13)]) (by decide +kernel) rfl ?_
  intro p e s m args below meth c s₁ B hml hv
  obtain ⟨rfl, hsz, hG⟩ := qs_Gd.start hv
  subst hsz
  have hx := B.exec
  have hb := B.bytes
  have hr := B.returns
  have hts := atoms_spec (ws := wsL_bookedFor) B.pre
  have hown : s.vm.findClass RL = some m.cls := findClass_of_methodNamed B.named
  have hlk := B.notSynchronized
  have htab : c.exceptionTable.toList = tableOf [(0, 9, 12, 13)] := vx_table (x := yL_bookedFor) B (hts _ List.mem_cons_self)
  have hmR : mc ≤ (headSpec wsL_bookedFor ({ frames := 9, cells := mc, slots := ms, locals := 153 } : Room)).room.cells := Nat.le_refl _
  have hsR : ms ≤ (headSpec wsL_bookedFor ({ frames := 9, cells := mc, slots := ms, locals := 153 } : Room)).room.slots := Nat.le_refl _
  have hk13 : (Cond.classLink RL 13 "java/lang/IndexOutOfBoundsException").before ([.ref x6, .int p0, .ref o] : List Value).toArray s = true := hts (.classLink RL 13 "java/lang/IndexOutOfBoundsException") (List.mem_of_getElem? (i := 1) rfl)
  have hl := lv_entry ([.ref x6, .int p0, .ref o]) (n := 4) (Nat.le_of_ble_eq_true rfl)
  rw [lg_entry_eq]
  generalize (lg_sl ([.ref x6, .int p0, .ref o]) ++ List.replicate (4 - (lg_sl ([.ref x6, .int p0, .ref o])).length) Slot.unset).toArray = ls at hl ⊢
  have hl : lv_has ls 4 [(0, .ref x6), (1, .int p0), (2, .ref o)] := hl
  refine lv_aload_n hx hb dL_bookedFor_0 rfl (lv_at hl 2 rfl) ?_
  refine lv_iconst (v := 0) hx hb dL_bookedFor_1 (by decide) ?_
  refine lv_aload_n hx hb dL_bookedFor_2 rfl (lv_at hl 0 rfl) ?_
  refine lv_iload_n hx hb dL_bookedFor_3 rfl (lv_at hl 1 rfl) ?_
  refine qx_i hG (vx_runV (As := [.int p0]) (rest := [.int 0, .ref o]) ⟨hx, hb, hml, hown, hts⟩ (c_X6_bookedFor l hl9 (ql_g g o f) _ SA x6 p0 h) (cwV 1 hts gL_bookedFor_X6_bookedFor rfl rfl rfl (by decide +kernel) ⟨(Nat.le_of_ble_eq_true rfl), (Nat.le_of_ble_eq_true rfl)⟩) ⟨qs_Pc.blind _ _ _ _, hG.recv hx6.1 hx6.2 (by decide) rfl, hG.pre _⟩ rfl rfl hl.1 rfl (lv_room (Nat.le_of_ble_eq_true rfl)) dL_bookedFor_4 ⟨by rw [Nat.zero_add]; exact hmR, by rw [Nat.zero_add]; exact hsR⟩) (fun E S1 H locs ce q9 hp hG h1 h2 h3 => ?_) (fun v S1 H locs h hG => ?_)
  · obtain ⟨rfl, hp⟩ := hp
    refine vx_catch (own := RL) (name := "java/lang/IndexOutOfBoundsException") hown [] ⟨0, 9, 12, 13⟩ [] (by rw [htab]; rfl) (fun z hz => absurd hz List.not_mem_nil) (by rfl) (by decide) hk13 (hG.cast (q := ("java/lang/IndexOutOfBoundsException", "java/lang/IndexOutOfBoundsException")) (by decide)) h1 h2 h3 ?_
    refine lv_astore_n (lv' := [(3, .ref q9), (0, .ref x6), (1, .int p0), (2, .ref o)]) hx hb dL_bookedFor_12 rfl hl (by decide) rfl (fun ls hl => ?_)
    refine lv_iconst (v := 1) hx hb dL_bookedFor_13 (by decide) ?_
    refine vx_ret ?_
    exact ql_e hx hb hr hlk hG hp (by rw [Nat.zero_add]; exact Nat.le_refl _) (by rw [Nat.zero_add]; exact Nat.le_refl _) dL_bookedFor_14
  · refine lv_i2l hx hb dL_bookedFor_7 rfl ?_
    refine ql_last hx hb hG dL_bookedFor_8 (fun H locs hG => ?_)
    refine lv_goto (tgt := 15) hx hb dL_bookedFor_9 (by decide) ?_
    refine lv_iconst (v := 0) hx hb dL_bookedFor_15 (by decide) ?_
    refine vx_ret ?_
    exact ql_e hx hb hr hlk hG h (by rw [Nat.zero_add]; exact Nat.le_refl _) (by rw [Nat.zero_add]; exact Nat.le_refl _) dL_bookedFor_16
set_option maxHeartbeats 4000000 in
set_option maxRecDepth 100000 in
theorem c_L_placeOf (l : Launch) (hl9 : l.stackTraces = false) (g : qs_G) (o : Nat) (f : Nat → Int64) (sz : Nat) (SA : qs_S) (x6 : Nat) (p0 : Int32) {mc ms : Nat} {post : Int32 → qs_S → (Nat → Int64) → Prop} (hx6 : x6 ∈ qs_L SA ∧ qs_K SA x6 = 6) (h : wp_X6_placeOf g.2.2.2.2.2.2.1 g.2.2.2.2.2.2.2 mc ms (fun (v : Int32) (S : qs_S) => post 0 S (vp_updL f (0 : Int32).toNatClampNeg v.toInt64)) (fun (E : String) (S : qs_S) => (E = "java/lang/IndexOutOfBoundsException" ∧ post 1 S f)) SA x6 p0) : vx_Met l yL_placeOf wsL_placeOf ({ frames := 9, cells := mc, slots := ms, locals := 153 } : Room) (qs_Pc (ql_g g o f) sz SA [.ref x6, .int p0, .ref o]) (ql_Qi g o (qs_F (ql_g g o f) SA sz) post) (qs_X (ql_g g o f) (qs_F (ql_g g o f) SA sz) (fun _ _ => False)) mc ms (qs_F (ql_g g o f) SA sz) := by
  refine vx_ofWH (cc := cL_placeOf) (maxL := 4) (ret := (some .int)) (hh := [(0, 9, 12, 13)]) (by decide +kernel) rfl ?_
  intro p e s m args below meth c s₁ B hml hv
  obtain ⟨rfl, hsz, hG⟩ := qs_Gd.start hv
  subst hsz
  have hx := B.exec
  have hb := B.bytes
  have hr := B.returns
  have hts := atoms_spec (ws := wsL_placeOf) B.pre
  have hown : s.vm.findClass RL = some m.cls := findClass_of_methodNamed B.named
  have hlk := B.notSynchronized
  have htab : c.exceptionTable.toList = tableOf [(0, 9, 12, 13)] := vx_table (x := yL_placeOf) B (hts _ List.mem_cons_self)
  have hmR : mc ≤ (headSpec wsL_placeOf ({ frames := 9, cells := mc, slots := ms, locals := 153 } : Room)).room.cells := Nat.le_refl _
  have hsR : ms ≤ (headSpec wsL_placeOf ({ frames := 9, cells := mc, slots := ms, locals := 153 } : Room)).room.slots := Nat.le_refl _
  have hk13 : (Cond.classLink RL 13 "java/lang/IndexOutOfBoundsException").before ([.ref x6, .int p0, .ref o] : List Value).toArray s = true := hts (.classLink RL 13 "java/lang/IndexOutOfBoundsException") (List.mem_of_getElem? (i := 1) rfl)
  have hl := lv_entry ([.ref x6, .int p0, .ref o]) (n := 4) (Nat.le_of_ble_eq_true rfl)
  rw [lg_entry_eq]
  generalize (lg_sl ([.ref x6, .int p0, .ref o]) ++ List.replicate (4 - (lg_sl ([.ref x6, .int p0, .ref o])).length) Slot.unset).toArray = ls at hl ⊢
  have hl : lv_has ls 4 [(0, .ref x6), (1, .int p0), (2, .ref o)] := hl
  refine lv_aload_n hx hb dL_placeOf_0 rfl (lv_at hl 2 rfl) ?_
  refine lv_iconst (v := 0) hx hb dL_placeOf_1 (by decide) ?_
  refine lv_aload_n hx hb dL_placeOf_2 rfl (lv_at hl 0 rfl) ?_
  refine lv_iload_n hx hb dL_placeOf_3 rfl (lv_at hl 1 rfl) ?_
  refine qx_i hG (vx_runV (As := [.int p0]) (rest := [.int 0, .ref o]) ⟨hx, hb, hml, hown, hts⟩ (c_X6_placeOf l hl9 (ql_g g o f) _ SA x6 p0 h) (cwV 1 hts gL_placeOf_X6_placeOf rfl rfl rfl (by decide +kernel) ⟨(Nat.le_of_ble_eq_true rfl), (Nat.le_of_ble_eq_true rfl)⟩) ⟨qs_Pc.blind _ _ _ _, hG.recv hx6.1 hx6.2 (by decide) rfl, hG.pre _⟩ rfl rfl hl.1 rfl (lv_room (Nat.le_of_ble_eq_true rfl)) dL_placeOf_4 ⟨by rw [Nat.zero_add]; exact hmR, by rw [Nat.zero_add]; exact hsR⟩) (fun E S1 H locs ce q9 hp hG h1 h2 h3 => ?_) (fun v S1 H locs h hG => ?_)
  · obtain ⟨rfl, hp⟩ := hp
    refine vx_catch (own := RL) (name := "java/lang/IndexOutOfBoundsException") hown [] ⟨0, 9, 12, 13⟩ [] (by rw [htab]; rfl) (fun z hz => absurd hz List.not_mem_nil) (by rfl) (by decide) hk13 (hG.cast (q := ("java/lang/IndexOutOfBoundsException", "java/lang/IndexOutOfBoundsException")) (by decide)) h1 h2 h3 ?_
    refine lv_astore_n (lv' := [(3, .ref q9), (0, .ref x6), (1, .int p0), (2, .ref o)]) hx hb dL_placeOf_12 rfl hl (by decide) rfl (fun ls hl => ?_)
    refine lv_iconst (v := 1) hx hb dL_placeOf_13 (by decide) ?_
    refine vx_ret ?_
    exact ql_e hx hb hr hlk hG hp (by rw [Nat.zero_add]; exact Nat.le_refl _) (by rw [Nat.zero_add]; exact Nat.le_refl _) dL_placeOf_14
  · refine lv_i2l hx hb dL_placeOf_7 rfl ?_
    refine ql_last hx hb hG dL_placeOf_8 (fun H locs hG => ?_)
    refine lv_goto (tgt := 15) hx hb dL_placeOf_9 (by decide) ?_
    refine lv_iconst (v := 0) hx hb dL_placeOf_15 (by decide) ?_
    refine vx_ret ?_
    exact ql_e hx hb hr hlk hG h (by rw [Nat.zero_add]; exact Nat.le_refl _) (by rw [Nat.zero_add]; exact Nat.le_refl _) dL_placeOf_16
set_option maxHeartbeats 4000000 in
set_option maxRecDepth 100000 in
theorem c_L_height (l : Launch) (hl9 : l.stackTraces = false) (g : qs_G) (o : Nat) (f : Nat → Int64) (sz : Nat) (SA : qs_S) (x6 : Nat) (p0 : Int32) {mc ms : Nat} {post : Int32 → qs_S → (Nat → Int64) → Prop} (hx6 : x6 ∈ qs_L SA ∧ qs_K SA x6 = 6) (h : wp_X6_height g.2.2.2.2.2.2.1 g.2.2.2.2.2.2.2 mc ms (fun (v : Int32) (S : qs_S) => post 0 S (vp_updL f (0 : Int32).toNatClampNeg v.toInt64)) (fun (E : String) (S : qs_S) => (E = "java/lang/IndexOutOfBoundsException" ∧ post 1 S f)) SA x6 p0) : vx_Met l yL_height wsL_height ({ frames := 8, cells := mc, slots := ms, locals := 132 } : Room) (qs_Pc (ql_g g o f) sz SA [.ref x6, .int p0, .ref o]) (ql_Qi g o (qs_F (ql_g g o f) SA sz) post) (qs_X (ql_g g o f) (qs_F (ql_g g o f) SA sz) (fun _ _ => False)) mc ms (qs_F (ql_g g o f) SA sz) := by
  refine vx_ofWH (cc := cL_height) (maxL := 4) (ret := (some .int)) (hh := [(0, 9, 12, 13)]) (by decide +kernel) rfl ?_
  intro p e s m args below meth c s₁ B hml hv
  obtain ⟨rfl, hsz, hG⟩ := qs_Gd.start hv
  subst hsz
  have hx := B.exec
  have hb := B.bytes
  have hr := B.returns
  have hts := atoms_spec (ws := wsL_height) B.pre
  have hown : s.vm.findClass RL = some m.cls := findClass_of_methodNamed B.named
  have hlk := B.notSynchronized
  have htab : c.exceptionTable.toList = tableOf [(0, 9, 12, 13)] := vx_table (x := yL_height) B (hts _ List.mem_cons_self)
  have hmR : mc ≤ (headSpec wsL_height ({ frames := 8, cells := mc, slots := ms, locals := 132 } : Room)).room.cells := Nat.le_refl _
  have hsR : ms ≤ (headSpec wsL_height ({ frames := 8, cells := mc, slots := ms, locals := 132 } : Room)).room.slots := Nat.le_refl _
  have hk13 : (Cond.classLink RL 13 "java/lang/IndexOutOfBoundsException").before ([.ref x6, .int p0, .ref o] : List Value).toArray s = true := hts (.classLink RL 13 "java/lang/IndexOutOfBoundsException") (List.mem_of_getElem? (i := 1) rfl)
  have hl := lv_entry ([.ref x6, .int p0, .ref o]) (n := 4) (Nat.le_of_ble_eq_true rfl)
  rw [lg_entry_eq]
  generalize (lg_sl ([.ref x6, .int p0, .ref o]) ++ List.replicate (4 - (lg_sl ([.ref x6, .int p0, .ref o])).length) Slot.unset).toArray = ls at hl ⊢
  have hl : lv_has ls 4 [(0, .ref x6), (1, .int p0), (2, .ref o)] := hl
  refine lv_aload_n hx hb dL_height_0 rfl (lv_at hl 2 rfl) ?_
  refine lv_iconst (v := 0) hx hb dL_height_1 (by decide) ?_
  refine lv_aload_n hx hb dL_height_2 rfl (lv_at hl 0 rfl) ?_
  refine lv_iload_n hx hb dL_height_3 rfl (lv_at hl 1 rfl) ?_
  refine qx_i hG (vx_runV (As := [.int p0]) (rest := [.int 0, .ref o]) ⟨hx, hb, hml, hown, hts⟩ (c_X6_height l hl9 (ql_g g o f) _ SA x6 p0 h) (cwV 1 hts gL_height_X6_height rfl rfl rfl (by decide +kernel) ⟨(Nat.le_of_ble_eq_true rfl), (Nat.le_of_ble_eq_true rfl)⟩) ⟨qs_Pc.blind _ _ _ _, hG.recv hx6.1 hx6.2 (by decide) rfl, hG.pre _⟩ rfl rfl hl.1 rfl (lv_room (Nat.le_of_ble_eq_true rfl)) dL_height_4 ⟨by rw [Nat.zero_add]; exact hmR, by rw [Nat.zero_add]; exact hsR⟩) (fun E S1 H locs ce q9 hp hG h1 h2 h3 => ?_) (fun v S1 H locs h hG => ?_)
  · obtain ⟨rfl, hp⟩ := hp
    refine vx_catch (own := RL) (name := "java/lang/IndexOutOfBoundsException") hown [] ⟨0, 9, 12, 13⟩ [] (by rw [htab]; rfl) (fun z hz => absurd hz List.not_mem_nil) (by rfl) (by decide) hk13 (hG.cast (q := ("java/lang/IndexOutOfBoundsException", "java/lang/IndexOutOfBoundsException")) (by decide)) h1 h2 h3 ?_
    refine lv_astore_n (lv' := [(3, .ref q9), (0, .ref x6), (1, .int p0), (2, .ref o)]) hx hb dL_height_12 rfl hl (by decide) rfl (fun ls hl => ?_)
    refine lv_iconst (v := 1) hx hb dL_height_13 (by decide) ?_
    refine vx_ret ?_
    exact ql_e hx hb hr hlk hG hp (by rw [Nat.zero_add]; exact Nat.le_refl _) (by rw [Nat.zero_add]; exact Nat.le_refl _) dL_height_14
  · refine lv_i2l hx hb dL_height_7 rfl ?_
    refine ql_last hx hb hG dL_height_8 (fun H locs hG => ?_)
    refine lv_goto (tgt := 15) hx hb dL_height_9 (by decide) ?_
    refine lv_iconst (v := 0) hx hb dL_height_15 (by decide) ?_
    refine vx_ret ?_
    exact ql_e hx hb hr hlk hG h (by rw [Nat.zero_add]; exact Nat.le_refl _) (by rw [Nat.zero_add]; exact Nat.le_refl _) dL_height_16
set_option maxHeartbeats 4000000 in
set_option maxRecDepth 100000 in
theorem c_L_queue (l : Launch) (hl9 : l.stackTraces = false) (g : qs_G) (o : Nat) (f : Nat → Int64) (sz : Nat) (SA : qs_S) (x6 : Nat) (p0 : Int32) {mc ms : Nat} {post : Int32 → qs_S → (Nat → Int64) → Prop} (hx6 : x6 ∈ qs_L SA ∧ qs_K SA x6 = 6) (h : wp_X6_queue g.2.2.2.2.2.2.1 g.2.2.2.2.2.2.2 mc ms (fun (v : Int32) (S : qs_S) => post 0 S (vp_updL f (0 : Int32).toNatClampNeg v.toInt64)) (fun (E : String) (S : qs_S) => (E = "java/lang/IndexOutOfBoundsException" ∧ post 1 S f)) SA x6 p0) : vx_Met l yL_queue wsL_queue ({ frames := 10, cells := mc, slots := ms, locals := 174 } : Room) (qs_Pc (ql_g g o f) sz SA [.ref x6, .int p0, .ref o]) (ql_Qi g o (qs_F (ql_g g o f) SA sz) post) (qs_X (ql_g g o f) (qs_F (ql_g g o f) SA sz) (fun _ _ => False)) mc ms (qs_F (ql_g g o f) SA sz) := by
  refine vx_ofWH (cc := cL_queue) (maxL := 4) (ret := (some .int)) (hh := [(0, 9, 12, 13)]) (by decide +kernel) rfl ?_
  intro p e s m args below meth c s₁ B hml hv
  obtain ⟨rfl, hsz, hG⟩ := qs_Gd.start hv
  subst hsz
  have hx := B.exec
  have hb := B.bytes
  have hr := B.returns
  have hts := atoms_spec (ws := wsL_queue) B.pre
  have hown : s.vm.findClass RL = some m.cls := findClass_of_methodNamed B.named
  have hlk := B.notSynchronized
  have htab : c.exceptionTable.toList = tableOf [(0, 9, 12, 13)] := vx_table (x := yL_queue) B (hts _ List.mem_cons_self)
  have hmR : mc ≤ (headSpec wsL_queue ({ frames := 10, cells := mc, slots := ms, locals := 174 } : Room)).room.cells := Nat.le_refl _
  have hsR : ms ≤ (headSpec wsL_queue ({ frames := 10, cells := mc, slots := ms, locals := 174 } : Room)).room.slots := Nat.le_refl _
  have hk13 : (Cond.classLink RL 13 "java/lang/IndexOutOfBoundsException").before ([.ref x6, .int p0, .ref o] : List Value).toArray s = true := hts (.classLink RL 13 "java/lang/IndexOutOfBoundsException") (List.mem_of_getElem? (i := 1) rfl)
  have hl := lv_entry ([.ref x6, .int p0, .ref o]) (n := 4) (Nat.le_of_ble_eq_true rfl)
  rw [lg_entry_eq]
  generalize (lg_sl ([.ref x6, .int p0, .ref o]) ++ List.replicate (4 - (lg_sl ([.ref x6, .int p0, .ref o])).length) Slot.unset).toArray = ls at hl ⊢
  have hl : lv_has ls 4 [(0, .ref x6), (1, .int p0), (2, .ref o)] := hl
  refine lv_aload_n hx hb dL_queue_0 rfl (lv_at hl 2 rfl) ?_
  refine lv_iconst (v := 0) hx hb dL_queue_1 (by decide) ?_
  refine lv_aload_n hx hb dL_queue_2 rfl (lv_at hl 0 rfl) ?_
  refine lv_iload_n hx hb dL_queue_3 rfl (lv_at hl 1 rfl) ?_
  refine qx_i hG (vx_runV (As := [.int p0]) (rest := [.int 0, .ref o]) ⟨hx, hb, hml, hown, hts⟩ (c_X6_queue l hl9 (ql_g g o f) _ SA x6 p0 h) (cwV 1 hts gL_queue_X6_queue rfl rfl rfl (by decide +kernel) ⟨(Nat.le_of_ble_eq_true rfl), (Nat.le_of_ble_eq_true rfl)⟩) ⟨qs_Pc.blind _ _ _ _, hG.recv hx6.1 hx6.2 (by decide) rfl, hG.pre _⟩ rfl rfl hl.1 rfl (lv_room (Nat.le_of_ble_eq_true rfl)) dL_queue_4 ⟨by rw [Nat.zero_add]; exact hmR, by rw [Nat.zero_add]; exact hsR⟩) (fun E S1 H locs ce q9 hp hG h1 h2 h3 => ?_) (fun v S1 H locs h hG => ?_)
  · obtain ⟨rfl, hp⟩ := hp
    refine vx_catch (own := RL) (name := "java/lang/IndexOutOfBoundsException") hown [] ⟨0, 9, 12, 13⟩ [] (by rw [htab]; rfl) (fun z hz => absurd hz List.not_mem_nil) (by rfl) (by decide) hk13 (hG.cast (q := ("java/lang/IndexOutOfBoundsException", "java/lang/IndexOutOfBoundsException")) (by decide)) h1 h2 h3 ?_
    refine lv_astore_n (lv' := [(3, .ref q9), (0, .ref x6), (1, .int p0), (2, .ref o)]) hx hb dL_queue_12 rfl hl (by decide) rfl (fun ls hl => ?_)
    refine lv_iconst (v := 1) hx hb dL_queue_13 (by decide) ?_
    refine vx_ret ?_
    exact ql_e hx hb hr hlk hG hp (by rw [Nat.zero_add]; exact Nat.le_refl _) (by rw [Nat.zero_add]; exact Nat.le_refl _) dL_queue_14
  · refine lv_i2l hx hb dL_queue_7 rfl ?_
    refine ql_last hx hb hG dL_queue_8 (fun H locs hG => ?_)
    refine lv_goto (tgt := 15) hx hb dL_queue_9 (by decide) ?_
    refine lv_iconst (v := 0) hx hb dL_queue_15 (by decide) ?_
    refine vx_ret ?_
    exact ql_e hx hb hr hlk hG h (by rw [Nat.zero_add]; exact Nat.le_refl _) (by rw [Nat.zero_add]; exact Nat.le_refl _) dL_queue_16
set_option maxHeartbeats 4000000 in
set_option maxRecDepth 100000 in
theorem c_L_queued (l : Launch) (hl9 : l.stackTraces = false) (g : qs_G) (o : Nat) (f : Nat → Int64) (sz : Nat) (SA : qs_S) (x6 : Nat) (p0 : Int32) (p1 : Int32) {mc ms : Nat} {post : Int32 → qs_S → (Nat → Int64) → Prop} (hx6 : x6 ∈ qs_L SA ∧ qs_K SA x6 = 6) (h : wp_X6_queued g.2.2.2.2.2.2.1 g.2.2.2.2.2.2.2 mc ms (fun (v : Int32) (S : qs_S) => post 0 S (vp_updL f (0 : Int32).toNatClampNeg v.toInt64)) (fun (E : String) (S : qs_S) => (E = "java/lang/IndexOutOfBoundsException" ∧ post 1 S f)) SA x6 p0 p1) : vx_Met l yL_queued wsL_queued ({ frames := 10, cells := mc, slots := ms, locals := 175 } : Room) (qs_Pc (ql_g g o f) sz SA [.ref x6, .int p0, .int p1, .ref o]) (ql_Qi g o (qs_F (ql_g g o f) SA sz) post) (qs_X (ql_g g o f) (qs_F (ql_g g o f) SA sz) (fun _ _ => False)) mc ms (qs_F (ql_g g o f) SA sz) := by
  refine vx_ofWH (cc := cL_queued) (maxL := 5) (ret := (some .int)) (hh := [(0, 10, 13, 13)]) (by decide +kernel) rfl ?_
  intro p e s m args below meth c s₁ B hml hv
  obtain ⟨rfl, hsz, hG⟩ := qs_Gd.start hv
  subst hsz
  have hx := B.exec
  have hb := B.bytes
  have hr := B.returns
  have hts := atoms_spec (ws := wsL_queued) B.pre
  have hown : s.vm.findClass RL = some m.cls := findClass_of_methodNamed B.named
  have hlk := B.notSynchronized
  have htab : c.exceptionTable.toList = tableOf [(0, 10, 13, 13)] := vx_table (x := yL_queued) B (hts _ List.mem_cons_self)
  have hmR : mc ≤ (headSpec wsL_queued ({ frames := 10, cells := mc, slots := ms, locals := 175 } : Room)).room.cells := Nat.le_refl _
  have hsR : ms ≤ (headSpec wsL_queued ({ frames := 10, cells := mc, slots := ms, locals := 175 } : Room)).room.slots := Nat.le_refl _
  have hk13 : (Cond.classLink RL 13 "java/lang/IndexOutOfBoundsException").before ([.ref x6, .int p0, .int p1, .ref o] : List Value).toArray s = true := hts (.classLink RL 13 "java/lang/IndexOutOfBoundsException") (List.mem_of_getElem? (i := 1) rfl)
  have hl := lv_entry ([.ref x6, .int p0, .int p1, .ref o]) (n := 5) (Nat.le_of_ble_eq_true rfl)
  rw [lg_entry_eq]
  generalize (lg_sl ([.ref x6, .int p0, .int p1, .ref o]) ++ List.replicate (5 - (lg_sl ([.ref x6, .int p0, .int p1, .ref o])).length) Slot.unset).toArray = ls at hl ⊢
  have hl : lv_has ls 5 [(0, .ref x6), (1, .int p0), (2, .int p1), (3, .ref o)] := hl
  refine lv_aload_n hx hb dL_queued_0 rfl (lv_at hl 3 rfl) ?_
  refine lv_iconst (v := 0) hx hb dL_queued_1 (by decide) ?_
  refine lv_aload_n hx hb dL_queued_2 rfl (lv_at hl 0 rfl) ?_
  refine lv_iload_n hx hb dL_queued_3 rfl (lv_at hl 1 rfl) ?_
  refine lv_iload_n hx hb dL_queued_4 rfl (lv_at hl 2 rfl) ?_
  refine qx_i hG (vx_runV (As := [.int p0, .int p1]) (rest := [.int 0, .ref o]) ⟨hx, hb, hml, hown, hts⟩ (c_X6_queued l hl9 (ql_g g o f) _ SA x6 p0 p1 h) (cwV 2 hts gL_queued_X6_queued rfl rfl rfl (by decide +kernel) ⟨(Nat.le_of_ble_eq_true rfl), (Nat.le_of_ble_eq_true rfl)⟩) ⟨qs_Pc.blind _ _ _ _, hG.recv hx6.1 hx6.2 (by decide) rfl, hG.pre _⟩ rfl rfl hl.1 rfl (lv_room (Nat.le_of_ble_eq_true rfl)) dL_queued_5 ⟨by rw [Nat.zero_add]; exact hmR, by rw [Nat.zero_add]; exact hsR⟩) (fun E S1 H locs ce q9 hp hG h1 h2 h3 => ?_) (fun v S1 H locs h hG => ?_)
  · obtain ⟨rfl, hp⟩ := hp
    refine vx_catch (own := RL) (name := "java/lang/IndexOutOfBoundsException") hown [] ⟨0, 10, 13, 13⟩ [] (by rw [htab]; rfl) (fun z hz => absurd hz List.not_mem_nil) (by rfl) (by decide) hk13 (hG.cast (q := ("java/lang/IndexOutOfBoundsException", "java/lang/IndexOutOfBoundsException")) (by decide)) h1 h2 h3 ?_
    refine lv_astore (lv' := [(4, .ref q9), (0, .ref x6), (1, .int p0), (2, .int p1), (3, .ref o)]) hx hb dL_queued_13 hl (by decide) rfl (fun ls hl => ?_)
    refine lv_iconst (v := 1) hx hb dL_queued_15 (by decide) ?_
    refine vx_ret ?_
    exact ql_e hx hb hr hlk hG hp (by rw [Nat.zero_add]; exact Nat.le_refl _) (by rw [Nat.zero_add]; exact Nat.le_refl _) dL_queued_16
  · refine lv_i2l hx hb dL_queued_8 rfl ?_
    refine ql_last hx hb hG dL_queued_9 (fun H locs hG => ?_)
    refine lv_goto (tgt := 17) hx hb dL_queued_10 (by decide) ?_
    refine lv_iconst (v := 0) hx hb dL_queued_17 (by decide) ?_
    refine vx_ret ?_
    exact ql_e hx hb hr hlk hG h (by rw [Nat.zero_add]; exact Nat.le_refl _) (by rw [Nat.zero_add]; exact Nat.le_refl _) dL_queued_18
set_option maxHeartbeats 4000000 in
set_option maxRecDepth 100000 in
theorem c_L_seen (l : Launch) (hl9 : l.stackTraces = false) (g : qs_G) (o : Nat) (f : Nat → Int64) (sz : Nat) (SA : qs_S) (x6 : Nat) (p0 : Int32) {mc ms : Nat} {post : Int32 → qs_S → (Nat → Int64) → Prop} (hx6 : x6 ∈ qs_L SA ∧ qs_K SA x6 = 6) (h : wp_X6_seen g.2.2.2.2.2.2.1 g.2.2.2.2.2.2.2 mc ms (fun (v : Int32) (S : qs_S) => post 0 S (vp_updL f (0 : Int32).toNatClampNeg v.toInt64)) (fun (E : String) (S : qs_S) => (E = "java/lang/IndexOutOfBoundsException" ∧ post 1 S f)) SA x6 p0) : vx_Met l yL_seen wsL_seen ({ frames := 8, cells := mc, slots := ms, locals := 133 } : Room) (qs_Pc (ql_g g o f) sz SA [.ref x6, .int p0, .ref o]) (ql_Qi g o (qs_F (ql_g g o f) SA sz) post) (qs_X (ql_g g o f) (qs_F (ql_g g o f) SA sz) (fun _ _ => False)) mc ms (qs_F (ql_g g o f) SA sz) := by
  refine vx_ofWH (cc := cL_seen) (maxL := 4) (ret := (some .int)) (hh := [(0, 9, 12, 13)]) (by decide +kernel) rfl ?_
  intro p e s m args below meth c s₁ B hml hv
  obtain ⟨rfl, hsz, hG⟩ := qs_Gd.start hv
  subst hsz
  have hx := B.exec
  have hb := B.bytes
  have hr := B.returns
  have hts := atoms_spec (ws := wsL_seen) B.pre
  have hown : s.vm.findClass RL = some m.cls := findClass_of_methodNamed B.named
  have hlk := B.notSynchronized
  have htab : c.exceptionTable.toList = tableOf [(0, 9, 12, 13)] := vx_table (x := yL_seen) B (hts _ List.mem_cons_self)
  have hmR : mc ≤ (headSpec wsL_seen ({ frames := 8, cells := mc, slots := ms, locals := 133 } : Room)).room.cells := Nat.le_refl _
  have hsR : ms ≤ (headSpec wsL_seen ({ frames := 8, cells := mc, slots := ms, locals := 133 } : Room)).room.slots := Nat.le_refl _
  have hk13 : (Cond.classLink RL 13 "java/lang/IndexOutOfBoundsException").before ([.ref x6, .int p0, .ref o] : List Value).toArray s = true := hts (.classLink RL 13 "java/lang/IndexOutOfBoundsException") (List.mem_of_getElem? (i := 1) rfl)
  have hl := lv_entry ([.ref x6, .int p0, .ref o]) (n := 4) (Nat.le_of_ble_eq_true rfl)
  rw [lg_entry_eq]
  generalize (lg_sl ([.ref x6, .int p0, .ref o]) ++ List.replicate (4 - (lg_sl ([.ref x6, .int p0, .ref o])).length) Slot.unset).toArray = ls at hl ⊢
  have hl : lv_has ls 4 [(0, .ref x6), (1, .int p0), (2, .ref o)] := hl
  refine lv_aload_n hx hb dL_seen_0 rfl (lv_at hl 2 rfl) ?_
  refine lv_iconst (v := 0) hx hb dL_seen_1 (by decide) ?_
  refine lv_aload_n hx hb dL_seen_2 rfl (lv_at hl 0 rfl) ?_
  refine lv_iload_n hx hb dL_seen_3 rfl (lv_at hl 1 rfl) ?_
  refine qx_i hG (vx_runV (As := [.int p0]) (rest := [.int 0, .ref o]) ⟨hx, hb, hml, hown, hts⟩ (c_X6_seen l hl9 (ql_g g o f) _ SA x6 p0 h) (cwV 1 hts gL_seen_X6_seen rfl rfl rfl (by decide +kernel) ⟨(Nat.le_of_ble_eq_true rfl), (Nat.le_of_ble_eq_true rfl)⟩) ⟨qs_Pc.blind _ _ _ _, hG.recv hx6.1 hx6.2 (by decide) rfl, hG.pre _⟩ rfl rfl hl.1 rfl (lv_room (Nat.le_of_ble_eq_true rfl)) dL_seen_4 ⟨by rw [Nat.zero_add]; exact hmR, by rw [Nat.zero_add]; exact hsR⟩) (fun E S1 H locs ce q9 hp hG h1 h2 h3 => ?_) (fun v S1 H locs h hG => ?_)
  · obtain ⟨rfl, hp⟩ := hp
    refine vx_catch (own := RL) (name := "java/lang/IndexOutOfBoundsException") hown [] ⟨0, 9, 12, 13⟩ [] (by rw [htab]; rfl) (fun z hz => absurd hz List.not_mem_nil) (by rfl) (by decide) hk13 (hG.cast (q := ("java/lang/IndexOutOfBoundsException", "java/lang/IndexOutOfBoundsException")) (by decide)) h1 h2 h3 ?_
    refine lv_astore_n (lv' := [(3, .ref q9), (0, .ref x6), (1, .int p0), (2, .ref o)]) hx hb dL_seen_12 rfl hl (by decide) rfl (fun ls hl => ?_)
    refine lv_iconst (v := 1) hx hb dL_seen_13 (by decide) ?_
    refine vx_ret ?_
    exact ql_e hx hb hr hlk hG hp (by rw [Nat.zero_add]; exact Nat.le_refl _) (by rw [Nat.zero_add]; exact Nat.le_refl _) dL_seen_14
  · refine lv_i2l hx hb dL_seen_7 rfl ?_
    refine ql_last hx hb hG dL_seen_8 (fun H locs hG => ?_)
    refine lv_goto (tgt := 15) hx hb dL_seen_9 (by decide) ?_
    refine lv_iconst (v := 0) hx hb dL_seen_15 (by decide) ?_
    refine vx_ret ?_
    exact ql_e hx hb hr hlk hG h (by rw [Nat.zero_add]; exact Nat.le_refl _) (by rw [Nat.zero_add]; exact Nat.le_refl _) dL_seen_16
set_option maxHeartbeats 4000000 in
set_option maxRecDepth 100000 in
theorem c_L_handed (l : Launch) (hl9 : l.stackTraces = false) (g : qs_G) (o : Nat) (f : Nat → Int64) (sz : Nat) (SA : qs_S) (x6 : Nat) (p0 : Int32) {mc ms : Nat} {post : Int32 → qs_S → (Nat → Int64) → Prop} (hx6 : x6 ∈ qs_L SA ∧ qs_K SA x6 = 6) (h : wp_X6_handed g.2.2.2.2.2.2.1 g.2.2.2.2.2.2.2 mc ms (fun (v : Int32) (S : qs_S) => post 0 S (vp_updL f (0 : Int32).toNatClampNeg v.toInt64)) (fun (E : String) (S : qs_S) => (E = "java/lang/IndexOutOfBoundsException" ∧ post 1 S f)) SA x6 p0) : vx_Met l yL_handed wsL_handed ({ frames := 9, cells := mc, slots := ms, locals := 153 } : Room) (qs_Pc (ql_g g o f) sz SA [.ref x6, .int p0, .ref o]) (ql_Qi g o (qs_F (ql_g g o f) SA sz) post) (qs_X (ql_g g o f) (qs_F (ql_g g o f) SA sz) (fun _ _ => False)) mc ms (qs_F (ql_g g o f) SA sz) := by
  refine vx_ofWH (cc := cL_handed) (maxL := 4) (ret := (some .int)) (hh := [(0, 9, 12, 13)]) (by decide +kernel) rfl ?_
  intro p e s m args below meth c s₁ B hml hv
  obtain ⟨rfl, hsz, hG⟩ := qs_Gd.start hv
  subst hsz
  have hx := B.exec
  have hb := B.bytes
  have hr := B.returns
  have hts := atoms_spec (ws := wsL_handed) B.pre
  have hown : s.vm.findClass RL = some m.cls := findClass_of_methodNamed B.named
  have hlk := B.notSynchronized
  have htab : c.exceptionTable.toList = tableOf [(0, 9, 12, 13)] := vx_table (x := yL_handed) B (hts _ List.mem_cons_self)
  have hmR : mc ≤ (headSpec wsL_handed ({ frames := 9, cells := mc, slots := ms, locals := 153 } : Room)).room.cells := Nat.le_refl _
  have hsR : ms ≤ (headSpec wsL_handed ({ frames := 9, cells := mc, slots := ms, locals := 153 } : Room)).room.slots := Nat.le_refl _
  have hk13 : (Cond.classLink RL 13 "java/lang/IndexOutOfBoundsException").before ([.ref x6, .int p0, .ref o] : List Value).toArray s = true := hts (.classLink RL 13 "java/lang/IndexOutOfBoundsException") (List.mem_of_getElem? (i := 1) rfl)
  have hl := lv_entry ([.ref x6, .int p0, .ref o]) (n := 4) (Nat.le_of_ble_eq_true rfl)
  rw [lg_entry_eq]
  generalize (lg_sl ([.ref x6, .int p0, .ref o]) ++ List.replicate (4 - (lg_sl ([.ref x6, .int p0, .ref o])).length) Slot.unset).toArray = ls at hl ⊢
  have hl : lv_has ls 4 [(0, .ref x6), (1, .int p0), (2, .ref o)] := hl
  refine lv_aload_n hx hb dL_handed_0 rfl (lv_at hl 2 rfl) ?_
  refine lv_iconst (v := 0) hx hb dL_handed_1 (by decide) ?_
  refine lv_aload_n hx hb dL_handed_2 rfl (lv_at hl 0 rfl) ?_
  refine lv_iload_n hx hb dL_handed_3 rfl (lv_at hl 1 rfl) ?_
  refine qx_i hG (vx_runV (As := [.int p0]) (rest := [.int 0, .ref o]) ⟨hx, hb, hml, hown, hts⟩ (c_X6_handed l hl9 (ql_g g o f) _ SA x6 p0 h) (cwV 1 hts gL_handed_X6_handed rfl rfl rfl (by decide +kernel) ⟨(Nat.le_of_ble_eq_true rfl), (Nat.le_of_ble_eq_true rfl)⟩) ⟨qs_Pc.blind _ _ _ _, hG.recv hx6.1 hx6.2 (by decide) rfl, hG.pre _⟩ rfl rfl hl.1 rfl (lv_room (Nat.le_of_ble_eq_true rfl)) dL_handed_4 ⟨by rw [Nat.zero_add]; exact hmR, by rw [Nat.zero_add]; exact hsR⟩) (fun E S1 H locs ce q9 hp hG h1 h2 h3 => ?_) (fun v S1 H locs h hG => ?_)
  · obtain ⟨rfl, hp⟩ := hp
    refine vx_catch (own := RL) (name := "java/lang/IndexOutOfBoundsException") hown [] ⟨0, 9, 12, 13⟩ [] (by rw [htab]; rfl) (fun z hz => absurd hz List.not_mem_nil) (by rfl) (by decide) hk13 (hG.cast (q := ("java/lang/IndexOutOfBoundsException", "java/lang/IndexOutOfBoundsException")) (by decide)) h1 h2 h3 ?_
    refine lv_astore_n (lv' := [(3, .ref q9), (0, .ref x6), (1, .int p0), (2, .ref o)]) hx hb dL_handed_12 rfl hl (by decide) rfl (fun ls hl => ?_)
    refine lv_iconst (v := 1) hx hb dL_handed_13 (by decide) ?_
    refine vx_ret ?_
    exact ql_e hx hb hr hlk hG hp (by rw [Nat.zero_add]; exact Nat.le_refl _) (by rw [Nat.zero_add]; exact Nat.le_refl _) dL_handed_14
  · refine lv_i2l hx hb dL_handed_7 rfl ?_
    refine ql_last hx hb hG dL_handed_8 (fun H locs hG => ?_)
    refine lv_goto (tgt := 15) hx hb dL_handed_9 (by decide) ?_
    refine lv_iconst (v := 0) hx hb dL_handed_15 (by decide) ?_
    refine vx_ret ?_
    exact ql_e hx hb hr hlk hG h (by rw [Nat.zero_add]; exact Nat.le_refl _) (by rw [Nat.zero_add]; exact Nat.le_refl _) dL_handed_16
set_option maxHeartbeats 4000000 in
set_option maxRecDepth 100000 in
theorem c_L_isDone (l : Launch) (hl9 : l.stackTraces = false) (g : qs_G) (o : Nat) (f : Nat → Int64) (sz : Nat) (SA : qs_S) (x6 : Nat) (p0 : Int32) {mc ms : Nat} {post : Int32 → qs_S → (Nat → Int64) → Prop} (hx6 : x6 ∈ qs_L SA ∧ qs_K SA x6 = 6) (h : wp_X6_isDone g.2.2.2.2.2.2.1 g.2.2.2.2.2.2.2 mc ms (fun (v : Int32) (S : qs_S) => post 0 S (vp_updL f (0 : Int32).toNatClampNeg (if v = 0 then 0 else 1))) (fun (E : String) (S : qs_S) => (E = "java/lang/IndexOutOfBoundsException" ∧ post 1 S f)) SA x6 p0) : vx_Met l yL_isDone wsL_isDone ({ frames := 9, cells := mc, slots := ms, locals := 153 } : Room) (qs_Pc (ql_g g o f) sz SA [.ref x6, .int p0, .ref o]) (ql_Qi g o (qs_F (ql_g g o f) SA sz) post) (qs_X (ql_g g o f) (qs_F (ql_g g o f) SA sz) (fun _ _ => False)) mc ms (qs_F (ql_g g o f) SA sz) := by
  refine vx_ofWH (cc := cL_isDone) (maxL := 4) (ret := (some .int)) (hh := [(0, 16, 19, 13)]) (by decide +kernel) rfl ?_
  intro p e s m args below meth c s₁ B hml hv
  obtain ⟨rfl, hsz, hG⟩ := qs_Gd.start hv
  subst hsz
  have hx := B.exec
  have hb := B.bytes
  have hr := B.returns
  have hts := atoms_spec (ws := wsL_isDone) B.pre
  have hown : s.vm.findClass RL = some m.cls := findClass_of_methodNamed B.named
  have hlk := B.notSynchronized
  have htab : c.exceptionTable.toList = tableOf [(0, 16, 19, 13)] := vx_table (x := yL_isDone) B (hts _ List.mem_cons_self)
  have hmR : mc ≤ (headSpec wsL_isDone ({ frames := 9, cells := mc, slots := ms, locals := 153 } : Room)).room.cells := Nat.le_refl _
  have hsR : ms ≤ (headSpec wsL_isDone ({ frames := 9, cells := mc, slots := ms, locals := 153 } : Room)).room.slots := Nat.le_refl _
  have hk13 : (Cond.classLink RL 13 "java/lang/IndexOutOfBoundsException").before ([.ref x6, .int p0, .ref o] : List Value).toArray s = true := hts (.classLink RL 13 "java/lang/IndexOutOfBoundsException") (List.mem_of_getElem? (i := 1) rfl)
  have hl := lv_entry ([.ref x6, .int p0, .ref o]) (n := 4) (Nat.le_of_ble_eq_true rfl)
  rw [lg_entry_eq]
  generalize (lg_sl ([.ref x6, .int p0, .ref o]) ++ List.replicate (4 - (lg_sl ([.ref x6, .int p0, .ref o])).length) Slot.unset).toArray = ls at hl ⊢
  have hl : lv_has ls 4 [(0, .ref x6), (1, .int p0), (2, .ref o)] := hl
  refine lv_aload_n hx hb dL_isDone_0 rfl (lv_at hl 2 rfl) ?_
  refine lv_iconst (v := 0) hx hb dL_isDone_1 (by decide) ?_
  refine lv_aload_n hx hb dL_isDone_2 rfl (lv_at hl 0 rfl) ?_
  refine lv_iload_n hx hb dL_isDone_3 rfl (lv_at hl 1 rfl) ?_
  refine qx_i hG (vx_runV (As := [.int p0]) (rest := [.int 0, .ref o]) ⟨hx, hb, hml, hown, hts⟩ (c_X6_isDone l hl9 (ql_g g o f) _ SA x6 p0 h) (cwV 1 hts gL_isDone_X6_isDone rfl rfl rfl (by decide +kernel) ⟨(Nat.le_of_ble_eq_true rfl), (Nat.le_of_ble_eq_true rfl)⟩) ⟨qs_Pc.blind _ _ _ _, hG.recv hx6.1 hx6.2 (by decide) rfl, hG.pre _⟩ rfl rfl hl.1 rfl (lv_room (Nat.le_of_ble_eq_true rfl)) dL_isDone_4 ⟨by rw [Nat.zero_add]; exact hmR, by rw [Nat.zero_add]; exact hsR⟩) (fun E S1 H locs ce q9 hp hG h1 h2 h3 => ?_) (fun v S1 H locs h hG => ?_)
  · obtain ⟨rfl, hp⟩ := hp
    refine vx_catch (own := RL) (name := "java/lang/IndexOutOfBoundsException") hown [] ⟨0, 16, 19, 13⟩ [] (by rw [htab]; rfl) (fun z hz => absurd hz List.not_mem_nil) (by rfl) (by decide) hk13 (hG.cast (q := ("java/lang/IndexOutOfBoundsException", "java/lang/IndexOutOfBoundsException")) (by decide)) h1 h2 h3 ?_
    refine lv_astore_n (lv' := [(3, .ref q9), (0, .ref x6), (1, .int p0), (2, .ref o)]) hx hb dL_isDone_19 rfl hl (by decide) rfl (fun ls hl => ?_)
    refine lv_iconst (v := 1) hx hb dL_isDone_20 (by decide) ?_
    refine vx_ret ?_
    exact ql_e hx hb hr hlk hG hp (by rw [Nat.zero_add]; exact Nat.le_refl _) (by rw [Nat.zero_add]; exact Nat.le_refl _) dL_isDone_21
  · refine lv_if_eq (tgt := 14) hx hb dL_isDone_7 (by decide) (fun c1 => ?_) (fun c1 => ?_)
    · rw [if_pos c1] at h
      refine lv_lconst (v := 0) hx hb dL_isDone_14 rfl ?_
      refine ql_last hx hb hG dL_isDone_15 (fun H locs hG => ?_)
      refine lv_goto (tgt := 22) hx hb dL_isDone_16 (by decide) ?_
      refine lv_iconst (v := 0) hx hb dL_isDone_22 (by decide) ?_
      refine vx_ret ?_
      exact ql_e hx hb hr hlk hG h (by rw [Nat.zero_add]; exact Nat.le_refl _) (by rw [Nat.zero_add]; exact Nat.le_refl _) dL_isDone_23
    · rw [if_neg c1] at h
      refine lv_lconst (v := 1) hx hb dL_isDone_10 rfl ?_
      refine lv_goto (tgt := 15) hx hb dL_isDone_11 (by decide) ?_
      refine ql_last hx hb hG dL_isDone_15 (fun H locs hG => ?_)
      refine lv_goto (tgt := 22) hx hb dL_isDone_16 (by decide) ?_
      refine lv_iconst (v := 0) hx hb dL_isDone_22 (by decide) ?_
      refine vx_ret ?_
      exact ql_e hx hb hr hlk hG h (by rw [Nat.zero_add]; exact Nat.le_refl _) (by rw [Nat.zero_add]; exact Nat.le_refl _) dL_isDone_23
set_option maxHeartbeats 4000000 in
set_option maxRecDepth 100000 in
theorem c_L_moveAt (l : Launch) (hl9 : l.stackTraces = false) (g : qs_G) (o : Nat) (f : Nat → Int64) (sz : Nat) (SA : qs_S) (x6 : Nat) (p0 : Int32) {mc ms : Nat} {post : Int32 → qs_S → (Nat → Int64) → Prop} (hx6 : x6 ∈ qs_L SA ∧ qs_K SA x6 = 6) (h : wp_X6_moveAt g.2.2.2.2.2.2.1 g.2.2.2.2.2.2.2 mc ms (fun (v : Int32) (S : qs_S) => post 0 S (vp_updL f (0 : Int32).toNatClampNeg v.toInt64)) (fun (E : String) (S : qs_S) => (E = "java/lang/IndexOutOfBoundsException" ∧ post 1 S f)) SA x6 p0) : vx_Met l yL_moveAt wsL_moveAt ({ frames := 9, cells := mc, slots := ms, locals := 153 } : Room) (qs_Pc (ql_g g o f) sz SA [.ref x6, .int p0, .ref o]) (ql_Qi g o (qs_F (ql_g g o f) SA sz) post) (qs_X (ql_g g o f) (qs_F (ql_g g o f) SA sz) (fun _ _ => False)) mc ms (qs_F (ql_g g o f) SA sz) := by
  refine vx_ofWH (cc := cL_moveAt) (maxL := 4) (ret := (some .int)) (hh := [(0, 9, 12, 13)]) (by decide +kernel) rfl ?_
  intro p e s m args below meth c s₁ B hml hv
  obtain ⟨rfl, hsz, hG⟩ := qs_Gd.start hv
  subst hsz
  have hx := B.exec
  have hb := B.bytes
  have hr := B.returns
  have hts := atoms_spec (ws := wsL_moveAt) B.pre
  have hown : s.vm.findClass RL = some m.cls := findClass_of_methodNamed B.named
  have hlk := B.notSynchronized
  have htab : c.exceptionTable.toList = tableOf [(0, 9, 12, 13)] := vx_table (x := yL_moveAt) B (hts _ List.mem_cons_self)
  have hmR : mc ≤ (headSpec wsL_moveAt ({ frames := 9, cells := mc, slots := ms, locals := 153 } : Room)).room.cells := Nat.le_refl _
  have hsR : ms ≤ (headSpec wsL_moveAt ({ frames := 9, cells := mc, slots := ms, locals := 153 } : Room)).room.slots := Nat.le_refl _
  have hk13 : (Cond.classLink RL 13 "java/lang/IndexOutOfBoundsException").before ([.ref x6, .int p0, .ref o] : List Value).toArray s = true := hts (.classLink RL 13 "java/lang/IndexOutOfBoundsException") (List.mem_of_getElem? (i := 1) rfl)
  have hl := lv_entry ([.ref x6, .int p0, .ref o]) (n := 4) (Nat.le_of_ble_eq_true rfl)
  rw [lg_entry_eq]
  generalize (lg_sl ([.ref x6, .int p0, .ref o]) ++ List.replicate (4 - (lg_sl ([.ref x6, .int p0, .ref o])).length) Slot.unset).toArray = ls at hl ⊢
  have hl : lv_has ls 4 [(0, .ref x6), (1, .int p0), (2, .ref o)] := hl
  refine lv_aload_n hx hb dL_moveAt_0 rfl (lv_at hl 2 rfl) ?_
  refine lv_iconst (v := 0) hx hb dL_moveAt_1 (by decide) ?_
  refine lv_aload_n hx hb dL_moveAt_2 rfl (lv_at hl 0 rfl) ?_
  refine lv_iload_n hx hb dL_moveAt_3 rfl (lv_at hl 1 rfl) ?_
  refine qx_i hG (vx_runV (As := [.int p0]) (rest := [.int 0, .ref o]) ⟨hx, hb, hml, hown, hts⟩ (c_X6_moveAt l hl9 (ql_g g o f) _ SA x6 p0 h) (cwV 1 hts gL_moveAt_X6_moveAt rfl rfl rfl (by decide +kernel) ⟨(Nat.le_of_ble_eq_true rfl), (Nat.le_of_ble_eq_true rfl)⟩) ⟨qs_Pc.blind _ _ _ _, hG.recv hx6.1 hx6.2 (by decide) rfl, hG.pre _⟩ rfl rfl hl.1 rfl (lv_room (Nat.le_of_ble_eq_true rfl)) dL_moveAt_4 ⟨by rw [Nat.zero_add]; exact hmR, by rw [Nat.zero_add]; exact hsR⟩) (fun E S1 H locs ce q9 hp hG h1 h2 h3 => ?_) (fun v S1 H locs h hG => ?_)
  · obtain ⟨rfl, hp⟩ := hp
    refine vx_catch (own := RL) (name := "java/lang/IndexOutOfBoundsException") hown [] ⟨0, 9, 12, 13⟩ [] (by rw [htab]; rfl) (fun z hz => absurd hz List.not_mem_nil) (by rfl) (by decide) hk13 (hG.cast (q := ("java/lang/IndexOutOfBoundsException", "java/lang/IndexOutOfBoundsException")) (by decide)) h1 h2 h3 ?_
    refine lv_astore_n (lv' := [(3, .ref q9), (0, .ref x6), (1, .int p0), (2, .ref o)]) hx hb dL_moveAt_12 rfl hl (by decide) rfl (fun ls hl => ?_)
    refine lv_iconst (v := 1) hx hb dL_moveAt_13 (by decide) ?_
    refine vx_ret ?_
    exact ql_e hx hb hr hlk hG hp (by rw [Nat.zero_add]; exact Nat.le_refl _) (by rw [Nat.zero_add]; exact Nat.le_refl _) dL_moveAt_14
  · refine lv_i2l hx hb dL_moveAt_7 rfl ?_
    refine ql_last hx hb hG dL_moveAt_8 (fun H locs hG => ?_)
    refine lv_goto (tgt := 15) hx hb dL_moveAt_9 (by decide) ?_
    refine lv_iconst (v := 0) hx hb dL_moveAt_15 (by decide) ?_
    refine vx_ret ?_
    exact ql_e hx hb hr hlk hG h (by rw [Nat.zero_add]; exact Nat.le_refl _) (by rw [Nat.zero_add]; exact Nat.le_refl _) dL_moveAt_16

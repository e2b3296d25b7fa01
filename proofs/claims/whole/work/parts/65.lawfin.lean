/-! ===== the law's cases: one call of the class, the same call of the reference, both compared ===== -/
def lw_St (g : qs_G) (o : Nat) (s : State) (S : qs_S) (G : Nat → Nat → Nat) (T : tt_T) (Hm : Nat → Nat) (M : mm_M) (f : Nat → Int64) (H : Heap) (locs : List Loc) (x y c : Nat) : Prop :=
  qs_Gd (ql_g g o f) (fun q => s.heap.size ≤ q) s S H locs ∧ tx_R g.2.2.2.2.2.2.1 S G T ∧ G 6 0 = x ∧ tx_M S y Hm M ∧ sm T M ∧ iv T c
def lw_K (p : Program) (l : Launch) (e : Env) (s : State) (m : MethodId) (below : List Frame) (meth : Method) (c : Code) (b : Nat) (g : qs_G) (o x y cn i k n pc : Nat) : Prop :=
  ∀ (S : qs_S) (G : Nat → Nat → Nat) (T : tt_T) (Hm : Nat → Nat) (M : mm_M) (f : Nat → Int64) (H : Heap) (locs : List Loc) (ls : Array Slot), lw_St g o s S G T Hm M f H locs x y cn → lv_has ls 7 [(0, .ref b), (1, .ref x), (2, .ref y), (3, .ref o), (4, .int (nI i))] → W p l e room_1 s m #[Value.ref b] below meth c H locs k n (lw_Z below #[Value.ref b] s) (F0 m pc ls [])
theorem lg_cmp_self {x : Int64} : lg_cmp x x = 0 := by
  unfold lg_cmp
  rw [if_neg (show ¬ x > x from Int64.lt_irrefl), if_pos rfl]
theorem ccA0 {e : Nat} (h : e ≤ 3) (z : nI (cA e) = 0) : e = 0 := by
  rcases (show e = 0 ∨ e = 1 ∨ e = 2 ∨ e = 3 by omega) with rfl | rfl | rfl | rfl
  · rfl
  all_goals exact absurd z (by decide)
theorem ccB0 {e : Nat} (h : e ≤ 3) (z : nI (cB e) = 0) : e = 0 := by
  rcases (show e = 0 ∨ e = 1 ∨ e = 2 ∨ e = 3 by omega) with rfl | rfl | rfl | rfl
  · rfl
  all_goals exact absurd z (by decide)
theorem ccS0 {e : Nat} (h : e ≤ 3) (z : nI (cS e) = 0) : e = 0 := by
  rcases (show e = 0 ∨ e = 1 ∨ e = 2 ∨ e = 3 by omega) with rfl | rfl | rfl | rfl
  · rfl
  all_goals exact absurd z (by decide)
theorem ccV0 {e : Nat} (h : e ≤ 3) (z : nI (cV e) = 0) : e = 0 := by
  rcases (show e = 0 ∨ e = 1 ∨ e = 2 ∨ e = 3 by omega) with rfl | rfl | rfl | rfl
  · rfl
  all_goals exact absurd z (by decide)
section LWF
variable {p : Program} {l : Launch} {e : Env} {s : State} {m : MethodId} {below : List Frame} {meth : Method} {c : Code} {b L : Nat} {xs : Nat → Int32} {g : qs_G} {o x y cn i k n : Nat}
/-- both have answered: what was thrown is compared, then the answer -/
theorem lw_fin {pc : Nat} (C0 : lw_At p s m meth c b L xs) (K : lw_K p l e s m below meth c b g o x y cn i k n 1882) {S : qs_S} {G : Nat → Nat → Nat} {T : tt_T} {Hm : Nat → Nat} {M : mm_M} {f : Nat → Int64} {H : Heap} {locs : List Loc} {ls : Array Slot} (st : lw_St g o s S G T Hm M f H locs x y cn) {kv v : Int32} (hl : lv_has ls 7 [(6, .int v), (5, .int kv), (0, .ref b), (1, .ref x), (2, .ref y), (3, .ref o), (4, .int (nI i))]) {ok : Prop} (hkr : k ≤ 601024) (hnr : n ≤ 7293034) (hk : kv = mi M 0) (h0 : kv = 0 → ok) (hv : ok → f 0 = v.toInt64)
    (d0 : decode code pc = .ok (.aload_n 2, 1)) (d1 : decode code (pc + 1) = .ok (.invokevirtual 110, 3)) (d2 : decode code (pc + 4) = .ok (.iload 5, 2)) (d3 : decode code (pc + 6) = .ok (.if_icmp .eq 5, 3)) (d4 : decode code (pc + 11) = .ok (.iload 5, 2)) (d5 : decode code (pc + 13) = .ok (.ifCond .ne 15, 3)) (d6 : decode code (pc + 16) = .ok (.aload_n 3, 1)) (d7 : decode code (pc + 17) = .ok (.iconst 0, 1)) (d8 : decode code (pc + 18) = .ok (.laload, 1)) (d9 : decode code (pc + 19) = .ok (.iload 6, 2)) (d10 : decode code (pc + 21) = .ok (.i2l, 1)) (d11 : decode code (pc + 22) = .ok (.lcmp, 1)) (d12 : decode code (pc + 23) = .ok (.ifCond .eq 5, 3)) {off : Int} (d13 : decode code (pc + 28) = .ok (.goto off, 3)) (hoff : ((pc + 28 : Nat) : Int) + off = 1882) :
    W p l e room_1 s m #[Value.ref b] below meth c H locs k n (lw_Z below #[Value.ref b] s) (F0 m pc ls []) := by
  obtain ⟨hx, hb, hr, hml, hown, hts0, hX, hbl, hlocks, hgv⟩ := C0
  have hts : ∀ w ∈ wsL_law, w.before #[Value.ref b] s = true := fun w h => hts0 w (wsL_law_in w h)
  obtain ⟨hG, hR, ex, hM, hS, hI⟩ := st
  refine lv_aload_n hx hb d0 rfl (lv_at hl 4 rfl) ?_
  refine qc_i hG (va_runV (As := []) (rest := []) ⟨hx, hb, hml, hown, hts⟩ (c_X7_thrown l (ql_g g o f) _ S y (cy_thrown (post := fun v S' => v = mi M 0 ∧ S' = S) hM ⟨rfl, rfl⟩)) (cwV 0 hts gL_law_X7_thrown rfl rfl rfl (by decide +kernel) ⟨(Nat.le_of_ble_eq_true rfl), (Nat.le_of_ble_eq_true rfl)⟩) ⟨qs_Pc.blind _ _ _ _, hG.recv hM.y7.1 hM.y7.2 (by decide) rfl, hG.pre _⟩ rfl rfl hl.1 rfl (lv_room (Nat.le_of_ble_eq_true rfl)) d1 ⟨hkr, hnr⟩) (fun r S1 H locs h hG => ?_)
  obtain ⟨ev, eS⟩ := h
  rw [eS] at hG
  rw [ev]
  refine lv_iload hx hb d2 (lv_at hl 1 rfl) ?_
  refine lv_icmp_eq (tgt := pc + 11) hx hb d3 (by omega) (fun _ => ?_) (fun c1 => absurd hk.symm c1)
  refine lv_iload hx hb d4 (lv_at hl 1 rfl) ?_
  have fin : W p l e room_1 s m #[Value.ref b] below meth c H locs k n (lw_Z below #[Value.ref b] s) (F0 m (pc + 28) ls []) := lv_goto (tgt := 1882) hx hb d13 hoff (K S G T Hm M f H locs ls ⟨hG, hR, ex, hM, hS, hI⟩ (lv_sub hl [2, 3, 4, 5, 6] rfl))
  refine lv_if_ne (tgt := pc + 28) hx hb d5 (by omega) (fun _ => fin) (fun c2 => ?_)
  have hf := hv (h0 c2)
  refine lv_aload_n hx hb d6 rfl (lv_at hl 5 rfl) ?_
  refine lv_iconst (v := 0) hx hb d7 (by decide) ?_
  refine ql_lald hx hb hG d8 ?_
  refine lv_iload hx hb d9 (lv_at hl 0 rfl) ?_
  refine lv_i2l hx hb d10 rfl ?_
  rw [hf]
  refine W.lcmp hx hb d11 ?_
  rw [lg_cmp_self]
  exact lv_if_eq (tgt := pc + 28) hx hb d12 (by omega) (fun _ => fin) (fun c3 => absurd rfl c3)
/-- the same where the answer is yes or no -/
theorem lw_finB {pc : Nat} (C0 : lw_At p s m meth c b L xs) (K : lw_K p l e s m below meth c b g o x y cn i k n 1882) {S : qs_S} {G : Nat → Nat → Nat} {T : tt_T} {Hm : Nat → Nat} {M : mm_M} {f : Nat → Int64} {H : Heap} {locs : List Loc} {ls : Array Slot} (st : lw_St g o s S G T Hm M f H locs x y cn) {kv v : Int32} (hl : lv_has ls 7 [(6, .int v), (5, .int kv), (0, .ref b), (1, .ref x), (2, .ref y), (3, .ref o), (4, .int (nI i))]) {ok : Prop} (hkr : k ≤ 601024) (hnr : n ≤ 7293034) (hk : kv = mi M 0) (h0 : kv = 0 → ok) (hv : ok → f 0 = lb v)
    (d0 : decode code pc = .ok (.aload_n 2, 1)) (d1 : decode code (pc + 1) = .ok (.invokevirtual 110, 3)) (d2 : decode code (pc + 4) = .ok (.iload 5, 2)) (d3 : decode code (pc + 6) = .ok (.if_icmp .eq 5, 3)) (d4 : decode code (pc + 11) = .ok (.iload 5, 2)) (d5 : decode code (pc + 13) = .ok (.ifCond .ne 22, 3)) (d6 : decode code (pc + 16) = .ok (.aload_n 3, 1)) (d7 : decode code (pc + 17) = .ok (.iconst 0, 1)) (d8 : decode code (pc + 18) = .ok (.laload, 1)) (d9 : decode code (pc + 19) = .ok (.iload 6, 2)) (d10 : decode code (pc + 21) = .ok (.ifCond .eq 7, 3)) (da : decode code (pc + 24) = .ok (.lconst 1, 1)) (db : decode code (pc + 25) = .ok (.goto 4, 3)) (dc : decode code (pc + 28) = .ok (.lconst 0, 1)) (d11 : decode code (pc + 29) = .ok (.lcmp, 1)) (d12 : decode code (pc + 30) = .ok (.ifCond .eq 5, 3)) {off : Int} (d13 : decode code (pc + 35) = .ok (.goto off, 3)) (hoff : ((pc + 35 : Nat) : Int) + off = 1882) :
    W p l e room_1 s m #[Value.ref b] below meth c H locs k n (lw_Z below #[Value.ref b] s) (F0 m pc ls []) := by
  obtain ⟨hx, hb, hr, hml, hown, hts0, hX, hbl, hlocks, hgv⟩ := C0
  have hts : ∀ w ∈ wsL_law, w.before #[Value.ref b] s = true := fun w h => hts0 w (wsL_law_in w h)
  obtain ⟨hG, hR, ex, hM, hS, hI⟩ := st
  refine lv_aload_n hx hb d0 rfl (lv_at hl 4 rfl) ?_
  refine qc_i hG (va_runV (As := []) (rest := []) ⟨hx, hb, hml, hown, hts⟩ (c_X7_thrown l (ql_g g o f) _ S y (cy_thrown (post := fun v S' => v = mi M 0 ∧ S' = S) hM ⟨rfl, rfl⟩)) (cwV 0 hts gL_law_X7_thrown rfl rfl rfl (by decide +kernel) ⟨(Nat.le_of_ble_eq_true rfl), (Nat.le_of_ble_eq_true rfl)⟩) ⟨qs_Pc.blind _ _ _ _, hG.recv hM.y7.1 hM.y7.2 (by decide) rfl, hG.pre _⟩ rfl rfl hl.1 rfl (lv_room (Nat.le_of_ble_eq_true rfl)) d1 ⟨hkr, hnr⟩) (fun r S1 H locs h hG => ?_)
  obtain ⟨ev, eS⟩ := h
  rw [eS] at hG
  rw [ev]
  refine lv_iload hx hb d2 (lv_at hl 1 rfl) ?_
  refine lv_icmp_eq (tgt := pc + 11) hx hb d3 (by omega) (fun _ => ?_) (fun c1 => absurd hk.symm c1)
  refine lv_iload hx hb d4 (lv_at hl 1 rfl) ?_
  have fin : W p l e room_1 s m #[Value.ref b] below meth c H locs k n (lw_Z below #[Value.ref b] s) (F0 m (pc + 35) ls []) := lv_goto (tgt := 1882) hx hb d13 hoff (K S G T Hm M f H locs ls ⟨hG, hR, ex, hM, hS, hI⟩ (lv_sub hl [2, 3, 4, 5, 6] rfl))
  refine lv_if_ne (tgt := pc + 35) hx hb d5 (by omega) (fun _ => fin) (fun c2 => ?_)
  have hf := hv (h0 c2)
  have cmp : ∀ w : Int64, w = lb v → W p l e room_1 s m #[Value.ref b] below meth c H locs k n (lw_Z below #[Value.ref b] s) (F0 m (pc + 29) ls [.long w, .long (f 0)]) := by
    intro w ew
    rw [ew, ← hf]
    refine W.lcmp hx hb d11 ?_
    rw [lg_cmp_self]
    exact lv_if_eq (tgt := pc + 35) hx hb d12 (by omega) (fun _ => fin) (fun c3 => absurd rfl c3)
  unfold lb at cmp
  refine lv_aload_n hx hb d6 rfl (lv_at hl 5 rfl) ?_
  refine lv_iconst (v := 0) hx hb d7 (by decide) ?_
  refine ql_lald hx hb hG d8 ?_
  refine lv_iload hx hb d9 (lv_at hl 0 rfl) ?_
  refine lv_if_eq (tgt := pc + 28) hx hb d10 (by omega) (fun c4 => ?_) (fun c4 => ?_)
  · rw [if_pos c4] at cmp
    exact lv_lconst (v := 0) hx hb dc rfl (cmp 0 rfl)
  · rw [if_neg c4] at cmp
    refine lv_lconst (v := 1) hx hb da rfl ?_
    exact lv_goto (tgt := pc + 29) hx hb db (by omega) (cmp 1 rfl)
end LWF

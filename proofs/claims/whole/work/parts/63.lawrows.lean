/-! ===== the law's own cell: a row of one long; rows of the law's own instructions ===== -/
def ql_g (g : qs_G) (o : Nat) (f : Nat → Int64) : qs_G := (g.1, g.2.1, g.2.2.1, g.2.2.2.1, g.2.2.2.2.1, [(o, .inl (g.2.2.2.2.1, 1, .inr (.inl f)))], g.2.2.2.2.2.2.1, g.2.2.2.2.2.2.2)
def ql_B (g : qs_G) (o : Nat) (F : Nat → Prop) (u : qs_S × (Nat → Int64)) (t : State) : Prop := qs_B (ql_g g o u.2) F u.1 t
abbrev ql_Qi (g : qs_G) (o : Nat) (F : Nat → Prop) (post : Int32 → qs_S → (Nat → Int64) → Prop) : Array Value → State → Outcome → State → Prop := va_Qi (fun (r : Int32) (u : qs_S × (Nat → Int64)) => post r u.1 u.2) (ql_B g o F) F
theorem qs_Gd.cast {g : qs_G} {A : Nat → Prop} {s : State} {S : qs_S} {H : Heap} {locs : List Loc} (h : qs_Gd g A s S H locs) {q : String × String} (hq : q ∈ qs_cast) {args : Array Value} : (Cond.castable q.1 q.2).before args s = true := va_Nw.use rfl (h.2.2.2.2.2.2.2.2.2.2.2.1 q hq)
theorem qs_Gd.nocast {g : qs_G} {A : Nat → Prop} {s : State} {S : qs_S} {H : Heap} {locs : List Loc} (h : qs_Gd g A s S H locs) {q : String × String} (hq : q ∈ qs_nocast) : va_Nc q.1 q.2 s := h.2.2.2.2.2.2.2.2.2.2.2.2.1 q hq
section QLR
variable {p : Program} {l : Launch} {e : Env} {R : Room} {s : State} {m : MethodId} {args : Array Value} {below : List Frame} {meth : Method} {c : Code} {H : Heap} {locs : List Loc} {cells slots : Nat} {Q : State → Prop}
variable {cc : ByteArray} {pc : Nat} {ls : Array Slot} {rest : List Value} {g : qs_G} {A : Nat → Prop} {S : qs_S} {o mc ms : Nat} {f : Nat → Int64}
theorem ql_last (hx : p.tables.exec = Jvm.exec) (hb : c.code = cc) (hG : qs_Gd (ql_g g o f) A s S H locs) {v : Int64} (hdg : decode cc pc = .ok (.lastore, 1))
    (kk : ∀ (H1 : Heap) (locs1 : List Loc), qs_Gd (ql_g g o (vp_updL f (0 : Int32).toNatClampNeg v)) A s S H1 locs1 → W p l e R s m args below meth c H1 locs1 cells slots Q (F0 m (pc + 1) ls rest)) : W p l e R s m args below meth c H locs cells slots Q (F0 m pc ls (.long v :: .int 0 :: .ref o :: rest)) :=
  va_last hx hb hG.1 hG.2.1 hG.2.2.1 hG.2.2.2.1 0 3 (cA := g.2.2.2.2.1) (n := 1) (f := f) rfl rfl (vp_in_nI (n := 0) (by decide) (by decide)) hdg (fun H1 locs1 hP hD hS => kk H1 locs1 ⟨hG.1, hP, hD, hS, hG.2.2.2.2⟩)
theorem ql_lald (hx : p.tables.exec = Jvm.exec) (hb : c.code = cc) (hG : qs_Gd (ql_g g o f) A s S H locs) (hdg : decode cc pc = .ok (.laload, 1))
    (kk : W p l e R s m args below meth c H locs cells slots Q (F0 m (pc + 1) ls (.long (f 0) :: rest))) : W p l e R s m args below meth c H locs cells slots Q (F0 m pc ls (.int 0 :: .ref o :: rest)) :=
  va_lald hx hb hG.1 hG.2.1 0 3 (cA := g.2.2.2.2.1) (n := 1) (f := f) rfl rfl (vp_in_nI (n := 0) (by decide) (by decide)) hdg kk
theorem ql_back {S1 : qs_S} {f1 : Nat → Int64} {t : State} {H1 : Heap} {locs1 : List Loc} (hG : qs_Gd (ql_g g o f) A s S H locs) (ht : t.heap = H1) (hB : ql_B g o (qs_F (ql_g g o f) S H.size) (S1, f1) t) (hS : va_S A s.heap H1 locs1) : qs_Gd (ql_g g o f1) A s S1 H1 locs1 := by
  subst ht
  exact ⟨hG.1, hB.2.1, hB.2.2.weaken (fun _ q _ h => hG.sub q.1 h), hS, hG.2.2.2.2⟩
theorem ql_i {a : Array Value} {st0 : List Value} {post : Int32 → qs_S → (Nat → Int64) → Prop} (hG : qs_Gd (ql_g g o f) A s S H locs) (hr : vx_Run p l e R s m args below meth c H locs cells slots mc ms (F0 m pc ls st0) rest (ql_Qi g o (qs_F (ql_g g o f) S H.size) post a) (qs_X (ql_g g o f) (qs_F (ql_g g o f) S H.size) (fun _ _ => False)) (qs_F (ql_g g o f) S H.size))
    (kk : ∀ (r : Int32) (S1 : qs_S) (f1 : Nat → Int64) (H1 : Heap) (locs1 : List Loc), post r S1 f1 → qs_Gd (ql_g g o f1) A s S1 H1 locs1 → W p l e R s m args below meth c H1 locs1 (cells + mc) (slots + ms) Q (F0 m (pc + 3) ls (.int r :: rest))) : W p l e R s m args below meth c H locs cells slots Q (F0 m pc ls st0) :=
  vx_calli hr hG.2.2.2.1 (fun q _ h => hG.sub q h) (fun q h => hG.sub q h) (fun q _ h => hG.sub q h) (fun E ce q9 u t H1 locs1 ht hvm _ hp hz hk hS h1 h2 h3 => hp.1.elim) (fun r u t H1 locs1 ht hvm hp hB hz hk hS => kk r u.1 u.2 H1 locs1 hp (ql_back hG ht hB hS))
theorem ql_e {v : Int32} {post : Int32 → qs_S → (Nat → Int64) → Prop} {f0 : Nat → Int64} {S0 : qs_S} {sz : Nat} (hx : p.tables.exec = Jvm.exec) (hb : c.code = cc) (hr : meth.sig.returnType = some .int) (hlocks : meth.locks = false) (hG : qs_Gd (ql_g g o f) (qs_F (ql_g g o f0) S0 sz) s S H locs) (hp : post v S f) (hc : cells ≤ mc) (hs : slots ≤ ms) (hdg : decode cc pc = .ok (.ireturn, 1)) :
    W p l e R s m args below meth c H locs cells slots (MQ below (ql_Qi g o (qs_F (ql_g g o f0) S0 sz) post) args s mc ms (qs_F (ql_g g o f0) S0 sz)) (F0 m pc ls [.int v]) :=
  W.widen hc hs (W.iret hx hb hr (fun t ht hW => ⟨⟨v, (S, f), rfl, hp, va_K.moved hW.alike hG.1, by rw [ht]; exact hG.2.1, hG.2.2.1⟩, hG.2.2.2.1.F ht⟩) hG.2.2.2.1.2.2 hdg hlocks)
theorem rot_get {α : Type} {l : List α} {x y : α} {k : Nat} (h : ([x] ++ l)[k]? = some y) : (l ++ [x])[if k = 0 then l.length else k - 1]? = some y ∧ k ≤ l.length := by
  cases k with
  | zero =>
    rw [if_pos rfl, List.getElem?_append_right (Nat.le_refl _), Nat.sub_self]
    exact ⟨h, Nat.zero_le _⟩
  | succ k =>
    have h' : l[k]? = some y := h
    have hk : k < l.length := (List.getElem?_eq_some_iff.mp h').1
    rw [if_neg (Nat.succ_ne_zero k), Nat.add_sub_cancel, List.getElem?_append_left hk]
    exact ⟨h', hk⟩
theorem ql_new (hx : p.tables.exec = Jvm.exec) (hb : c.code = cc) (harr : (Cond.arrayClass .long).before args s = true) (hW : g.2.2.2.2.2.1 = []) (hG : qs_Gd g A s S H locs) (hcells : cells + 1 ≤ R.cells) (hslots : slots + 1 ≤ R.slots) (hdg : decode cc pc = .ok (.newarray .long, 2))
    (kk : ∀ (q : Nat) (H1 : Heap), qs_Gd (ql_g g q (fun _ => 0)) A s S H1 locs → W p l e R s m args below meth c H1 locs (cells + 1) (slots + 1) Q (F0 m (pc + 2) ls (.ref q :: rest))) : W p l e R s m args below meth c H locs cells slots Q (F0 m pc ls (.int 1 :: rest)) := by
  refine va_newa (atype := .long) hx hb harr rfl hG.1 hG.2.1 hG.2.2.1 hG.2.2.2.1 hG.2.2.2.2.1 (a0 := (1, .inr (.inl (fun _ => 0)))) (fun cA => rfl) (by decide) (by decide) (by decide) hcells hslots hdg (fun q cA H1 hK hP hD hS => ?_)
  have h1 := (hK.2 3 (g.2.2.2.2.1, .long) rfl).2
  have h2 := (hK.2 4 (cA, .long) rfl).2
  have hcA : cA = g.2.2.2.2.1 := Option.some.inj ((show s.vm.findClass _ = some cA from h2).symm.trans (show s.vm.findClass _ = some g.2.2.2.2.1 from h1))
  subst hcA
  have ew : qs_ws g S = va_pl (qs_L S) (qs_e g S) := by
    unfold qs_ws
    rw [hW]
    rfl
  rw [ew] at hP hD
  refine kk q H1 ⟨hG.1, fun k x h => hP _ x (rot_get h).1, ⟨fun i j x z h1 h2 e => ?_, fun k x h => hD.2 _ x (rot_get h).1⟩, hS, hG.2.2.2.2⟩
  obtain ⟨a1, a2⟩ := rot_get h1
  obtain ⟨b1, b2⟩ := rot_get h2
  have := hD.1 _ _ x z a1 b1 e
  split at this <;> split at this <;> omega
/-- an int of the script -/
theorem lw_arg {b L : Nat} {xs : Nat → Int32} {H0 : Heap} {lv : List (Nat × Value)} {nL a0 a4 i k : Nat} {kI : Instr} (hx : p.tables.exec = Jvm.exec) (hb : c.code = cc) (hX : va_X b L xs s H0) (hbl : b < H0.size) (hbA : ¬ A b) (hS : va_S A H0 H locs) (hl : lv_has ls nL lv) (h0 : lv[a0]? = some (0, .ref b)) (h4 : lv[a4]? = some (4, .int (nI i))) (hk : i + k < L) (hL : L ≤ 2560) (hk5 : k < 5)
    (d1 : decode cc pc = .ok (.aload_n 0, 1)) (d2 : decode cc (pc + 1) = .ok (.iload 4, 2)) (d3 : decode cc (pc + 3) = .ok (kI, 1)) (hkI : kI = .iconst (k : Int)) (d4 : decode cc (pc + 4) = .ok (.iadd, 1)) (d5 : decode cc (pc + 5) = .ok (.iaload, 1))
    (kk : W p l e R s m args below meth c H locs cells slots Q (F0 m (pc + 6) ls (.int (xs (i + k)) :: rest))) : W p l e R s m args below meth c H locs cells slots Q (F0 m pc ls rest) := by
  subst hkI
  have hv : (Int32.ofInt (k : Int)) = nI k := by
    rcases (show k = 0 ∨ k = 1 ∨ k = 2 ∨ k = 3 ∨ k = 4 by omega) with rfl | rfl | rfl | rfl | rfl <;> decide
  refine lv_aload_n hx hb d1 rfl (lv_at hl a0 h0) ?_
  refine lv_iload hx hb d2 (lv_at hl a4 h4) ?_
  refine lv_iconst (v := nI k) hx hb d3 hv ?_
  refine lv_iadd hx hb d4 ?_
  rw [nI_add]
  refine va_sld hx hb hX hbl hbA hS (vp_in_nI hk (by omega)) d5 ?_
  rw [nI_clamp (by omega)]
  exact kk
def lz (x : Int32) : Int32 := if x = 0 then 0 else 1
theorem lz01 {x : Int32} : lz x = 0 ∨ lz x = 1 := by
  unfold lz
  split
  · exact Or.inl rfl
  · exact Or.inr rfl
/-- an int of the script, asked whether it is not 0 -/
theorem lw_arb {b L : Nat} {xs : Nat → Int32} {H0 : Heap} {lv : List (Nat × Value)} {nL a0 a4 i k : Nat} {kI : Instr} (hx : p.tables.exec = Jvm.exec) (hb : c.code = cc) (hX : va_X b L xs s H0) (hbl : b < H0.size) (hbA : ¬ A b) (hS : va_S A H0 H locs) (hl : lv_has ls nL lv) (h0 : lv[a0]? = some (0, .ref b)) (h4 : lv[a4]? = some (4, .int (nI i))) (hk : i + k < L) (hL : L ≤ 2560) (hk5 : k < 5)
    (d1 : decode cc pc = .ok (.aload_n 0, 1)) (d2 : decode cc (pc + 1) = .ok (.iload 4, 2)) (d3 : decode cc (pc + 3) = .ok (kI, 1)) (hkI : kI = .iconst (k : Int)) (d4 : decode cc (pc + 4) = .ok (.iadd, 1)) (d5 : decode cc (pc + 5) = .ok (.iaload, 1)) (d6 : decode cc (pc + 6) = .ok (.ifCond .eq 7, 3)) (d7 : decode cc (pc + 9) = .ok (.iconst 1, 1)) (d8 : decode cc (pc + 10) = .ok (.goto 4, 3)) (d9 : decode cc (pc + 13) = .ok (.iconst 0, 1))
    (kk : W p l e R s m args below meth c H locs cells slots Q (F0 m (pc + 14) ls (.int (lz (xs (i + k))) :: rest))) : W p l e R s m args below meth c H locs cells slots Q (F0 m pc ls rest) := by
  refine lw_arg hx hb hX hbl hbA hS hl h0 h4 hk hL hk5 d1 d2 d3 hkI d4 d5 ?_
  unfold lz at kk
  refine lv_if_eq (tgt := pc + 13) hx hb d6 (by omega) (fun c1 => ?_) (fun c1 => ?_)
  · rw [if_pos c1] at kk
    exact lv_iconst (v := 0) hx hb d9 (by decide) kk
  · rw [if_neg c1] at kk
    refine lv_iconst (v := 1) hx hb d7 (by decide) ?_
    exact lv_goto (tgt := pc + 14) hx hb d8 (by omega) kk
end QLR
/-- what both answer to one call of the law: how the class's exceptions are counted, how its answer is kept -/
def lq (t0 : Nat) (S : qs_S) (x : Nat) (cd : Nat → Nat) (cv : Int32 → Int64) (r : tq_r) (k : Int32) (S' : qs_S) (v : Int64) : Prop := k = nI (cd r.1) ∧ (r.1 = 0 → v = cv r.2.1) ∧ ∃ G', tx_R t0 S' G' r.2.2 ∧ G' 6 0 = x ∧ tx_K t0 S S'
def lb (x : Int32) : Int64 := if x = 0 then 0 else 1
section LQ
variable {t0 x : Nat} {S : qs_S} {G : Nat → Nat → Nat} {T : tt_T} {r : tq_r} {cv : Int32 → Int64} {f : Nat → Int64}
theorem lq_ok {cd : Nat → Nat} (hcd : cd 0 = 0) (e : r.1 = 0) {S' : qs_S} {G' : Nat → Nat → Nat} (h : tx_R t0 S' G' r.2.2) (hx : G' 6 0 = x) (k : tx_K t0 S S') {w : Int64} (hw : w = cv r.2.1) : lq t0 S x cd cv r 0 S' w := ⟨by rw [e, hcd, nI_0], fun _ => hw, G', h, hx, k⟩
theorem lq_er {cd : Nat → Nat} {n : Nat} {k : Int32} (h : tx_R t0 S G T) (hx : G 6 0 = x) (he : r.1 ≠ 0 → r.2.2 = T) (e : r.1 = n + 1) (hk : k = nI (cd (n + 1))) {v : Int64} : lq t0 S x cd cv r k S v := ⟨by rw [hk, e], fun z => by omega, G, by rw [he (by omega)]; exact h, hx, tx_K.rf⟩
end LQ
/-- failing calls leave the state; which exceptions there are -/
def tqo (P : Nat → Prop) (T : tt_T) (r : tq_r) : Prop := (r.1 ≠ 0 → r.2.2 = T) ∧ P r.1
theorem tqo_e {P : Nat → Prop} {T : tt_T} {v : Int32} {n : Nat} (hP : P n) : tqo P T (n, v, T) := ⟨fun _ => rfl, hP⟩
theorem tqo_0 {P : Nat → Prop} {T : tt_T} {q : Int32 × tt_T} (hP : P 0) : tqo P T (0, q) := ⟨fun h => absurd rfl h, hP⟩
theorem up0 {f : Nat → Int64} {v : Int64} : vp_updL f (0 : Int32).toNatClampNeg v 0 = v := by
  show (if 0 = (0 : Int32).toNatClampNeg then v else f 0) = v
  exact if_pos (by decide)

section QSC
variable {p : Program} {l : Launch} {e : Env} {R : Room} {s : State} {m : MethodId} {args : Array Value} {below : List Frame} {meth : Method} {c : Code} {H : Heap} {locs : List Loc} {cells slots : Nat} {Q : State → Prop}
variable {cc : ByteArray} {pc : Nat} {ls : Array Slot} {rest st0 : List Value} {g : qs_G} {A : Nat → Prop} {S : qs_S} {a : Array Value} {mc ms : Nat}
def qs_X (g : qs_G) (F : Nat → Prop) (px : String → qs_S → Prop) : String → State → State → Prop := vx_X (fun _ : qs_S => True) (fun E S1 t => px E S1 ∧ qs_B g F S1 t) F
abbrev qs_Qi (g : qs_G) (F : Nat → Prop) (post : Int32 → qs_S → Prop) : Array Value → State → Outcome → State → Prop := va_Qi post (qs_B g F) F
abbrev qs_Qv (g : qs_G) (F : Nat → Prop) (post : qs_S → Prop) : Array Value → State → Outcome → State → Prop := va_Qv post (qs_B g F) F
abbrev qs_Qq (g : qs_G) (F : Nat → Prop) (post : Option Nat → qs_S → Prop) : Array Value → State → Outcome → State → Prop := va_Qq post (qs_B g F) F
theorem qs_back {S1 : qs_S} {t : State} {H1 : Heap} {locs1 : List Loc} (hG : qs_Gd g A s S H locs) (ht : t.heap = H1) (hB : qs_B g (qs_F g S H.size) S1 t) (hvm : s.vm.Alike t.vm) (hS : va_S A s.heap H1 locs1) : qs_Gd g A s S1 H1 locs1 := by
  subst ht
  exact ⟨hG.1, hB.2.1, hB.2.2.weaken (fun _ q _ h => hG.sub q.1 h), hS, hG.2.2.2.2⟩
theorem qc_i {post : Int32 → qs_S → Prop} (hG : qs_Gd g A s S H locs) (hr : va_Run p l e R s m args below meth c H locs cells slots mc ms (F0 m pc ls st0) rest (va_Qi post (qs_B g (qs_F g S H.size)) (qs_F g S H.size) a) (qs_F g S H.size))
    (kk : ∀ (r : Int32) (S1 : qs_S) (H1 : Heap) (locs1 : List Loc), post r S1 → qs_Gd g A s S1 H1 locs1 → W p l e R s m args below meth c H1 locs1 (cells + mc) (slots + ms) Q (F0 m (pc + 3) ls (.int r :: rest))) : W p l e R s m args below meth c H locs cells slots Q (F0 m pc ls st0) :=
  va_calli hr hG.2.2.2.1 (fun q _ h => hG.sub q h) (fun q h => hG.sub q h) (fun r u t H1 locs1 ht hvm hp hB hz hk hS => kk r u H1 locs1 hp (qs_back hG ht hB hvm hS))
theorem qx_i {post : Int32 → qs_S → Prop} {px : String → qs_S → Prop} (hG : qs_Gd g A s S H locs) (hr : vx_Run p l e R s m args below meth c H locs cells slots mc ms (F0 m pc ls st0) rest (va_Qi post (qs_B g (qs_F g S H.size)) (qs_F g S H.size) a) (qs_X g (qs_F g S H.size) px) (qs_F g S H.size))
    (kx : ∀ (E : String) (S1 : qs_S) (H1 : Heap) (locs1 : List Loc) (ce : Cell) (q9 : Addr), px E S1 → qs_Gd g A s S1 H1 locs1 → H1[q9]? = some ce → ce.vm = .none → s.vm.findClass E = some ce.cls → vx_W p l e R s m args below meth c H1 locs1 (cells + mc) (slots + ms) Q (F0 m pc ls rest) q9)
    (kk : ∀ (r : Int32) (S1 : qs_S) (H1 : Heap) (locs1 : List Loc), post r S1 → qs_Gd g A s S1 H1 locs1 → W p l e R s m args below meth c H1 locs1 (cells + mc) (slots + ms) Q (F0 m (pc + 3) ls (.int r :: rest))) : W p l e R s m args below meth c H locs cells slots Q (F0 m pc ls st0) :=
  vx_calli hr hG.2.2.2.1 (fun q _ h => hG.sub q h) (fun q h => hG.sub q h) (fun q _ h => hG.sub q h) (fun E ce q9 u t H1 locs1 ht hvm _ hp hz hk hS h1 h2 h3 => kx E u H1 locs1 ce q9 hp.1 (qs_back hG ht hp.2 hvm hS) h1 h2 h3) (fun r u t H1 locs1 ht hvm hp hB hz hk hS => kk r u H1 locs1 hp (qs_back hG ht hB hvm hS))
theorem qc_q {post : Option Nat → qs_S → Prop} (hG : qs_Gd g A s S H locs) (hr : va_Run p l e R s m args below meth c H locs cells slots mc ms (F0 m pc ls st0) rest (va_Qq post (qs_B g (qs_F g S H.size)) (qs_F g S H.size) a) (qs_F g S H.size))
    (kk : ∀ (r : Option Nat) (S1 : qs_S) (H1 : Heap) (locs1 : List Loc), post r S1 → qs_Gd g A s S1 H1 locs1 → W p l e R s m args below meth c H1 locs1 (cells + mc) (slots + ms) Q (F0 m (pc + 3) ls (va_rf r :: rest))) : W p l e R s m args below meth c H locs cells slots Q (F0 m pc ls st0) :=
  va_callq hr hG.2.2.2.1 (fun q _ h => hG.sub q h) (fun q h => hG.sub q h) (fun r u t H1 locs1 ht hvm hp hB hz hk hS => kk r u H1 locs1 hp (qs_back hG ht hB hvm hS))
theorem qx_q {post : Option Nat → qs_S → Prop} {px : String → qs_S → Prop} (hG : qs_Gd g A s S H locs) (hr : vx_Run p l e R s m args below meth c H locs cells slots mc ms (F0 m pc ls st0) rest (va_Qq post (qs_B g (qs_F g S H.size)) (qs_F g S H.size) a) (qs_X g (qs_F g S H.size) px) (qs_F g S H.size))
    (kx : ∀ (E : String) (S1 : qs_S) (H1 : Heap) (locs1 : List Loc) (ce : Cell) (q9 : Addr), px E S1 → qs_Gd g A s S1 H1 locs1 → H1[q9]? = some ce → ce.vm = .none → s.vm.findClass E = some ce.cls → vx_W p l e R s m args below meth c H1 locs1 (cells + mc) (slots + ms) Q (F0 m pc ls rest) q9)
    (kk : ∀ (r : Option Nat) (S1 : qs_S) (H1 : Heap) (locs1 : List Loc), post r S1 → qs_Gd g A s S1 H1 locs1 → W p l e R s m args below meth c H1 locs1 (cells + mc) (slots + ms) Q (F0 m (pc + 3) ls (va_rf r :: rest))) : W p l e R s m args below meth c H locs cells slots Q (F0 m pc ls st0) :=
  vx_callq hr hG.2.2.2.1 (fun q _ h => hG.sub q h) (fun q h => hG.sub q h) (fun q _ h => hG.sub q h) (fun E ce q9 u t H1 locs1 ht hvm _ hp hz hk hS h1 h2 h3 => kx E u H1 locs1 ce q9 hp.1 (qs_back hG ht hp.2 hvm hS) h1 h2 h3) (fun r u t H1 locs1 ht hvm hp hB hz hk hS => kk r u H1 locs1 hp (qs_back hG ht hB hvm hS))
theorem qc_v {post : qs_S → Prop} (hG : qs_Gd g A s S H locs) (hr : va_Run p l e R s m args below meth c H locs cells slots mc ms (F0 m pc ls st0) rest (va_Qv post (qs_B g (qs_F g S H.size)) (qs_F g S H.size) a) (qs_F g S H.size))
    (kk : ∀ (S1 : qs_S) (H1 : Heap) (locs1 : List Loc), post S1 → qs_Gd g A s S1 H1 locs1 → W p l e R s m args below meth c H1 locs1 (cells + mc) (slots + ms) Q (F0 m (pc + 3) ls rest)) : W p l e R s m args below meth c H locs cells slots Q (F0 m pc ls st0) :=
  va_callv hr hG.2.2.2.1 (fun q _ h => hG.sub q h) (fun q h => hG.sub q h) (fun u t H1 locs1 ht hvm hp hB hz hk hS => kk u H1 locs1 hp (qs_back hG ht hB hvm hS))
theorem qx_v {post : qs_S → Prop} {px : String → qs_S → Prop} (hG : qs_Gd g A s S H locs) (hr : vx_Run p l e R s m args below meth c H locs cells slots mc ms (F0 m pc ls st0) rest (va_Qv post (qs_B g (qs_F g S H.size)) (qs_F g S H.size) a) (qs_X g (qs_F g S H.size) px) (qs_F g S H.size))
    (kx : ∀ (E : String) (S1 : qs_S) (H1 : Heap) (locs1 : List Loc) (ce : Cell) (q9 : Addr), px E S1 → qs_Gd g A s S1 H1 locs1 → H1[q9]? = some ce → ce.vm = .none → s.vm.findClass E = some ce.cls → vx_W p l e R s m args below meth c H1 locs1 (cells + mc) (slots + ms) Q (F0 m pc ls rest) q9)
    (kk : ∀ (S1 : qs_S) (H1 : Heap) (locs1 : List Loc), post S1 → qs_Gd g A s S1 H1 locs1 → W p l e R s m args below meth c H1 locs1 (cells + mc) (slots + ms) Q (F0 m (pc + 3) ls rest)) : W p l e R s m args below meth c H locs cells slots Q (F0 m pc ls st0) :=
  vx_callv hr hG.2.2.2.1 (fun q _ h => hG.sub q h) (fun q h => hG.sub q h) (fun q _ h => hG.sub q h) (fun E ce q9 u t H1 locs1 ht hvm _ hp hz hk hS h1 h2 h3 => kx E u H1 locs1 ce q9 hp.1 (qs_back hG ht hp.2 hvm hS) h1 h2 h3) (fun u t H1 locs1 ht hvm hp hB hz hk hS => kk u H1 locs1 hp (qs_back hG ht hB hvm hS))
theorem qx_out {S0 : qs_S} {sz : Nat} {E : String} {ce : Cell} {q9 : Addr} {px : String → qs_S → Prop} {Qc : Array Value → State → Outcome → State → Prop} (hout : ∀ x ∈ c.exceptionTable.toList, False) (hlocks : meth.locks = false) (hG : qs_Gd g (qs_F g S0 sz) s S H locs) (hpx : px E S) (h1 : H[q9]? = some ce) (h2 : ce.vm = .none) (h3 : s.vm.findClass E = some ce.cls) (hc : cells ≤ mc) (hs : slots ≤ ms) :
    vx_W p l e R s m args below meth c H locs cells slots (vx_MQ below Qc (qs_X g (qs_F g S0 sz) px) args s mc ms (qs_F g S0 sz)) (F0 m pc ls rest) q9 :=
  vx_out (fun x hx => (hout x hx).elim) hlocks h1 h2 h3 (fun t ht hal => ⟨S, trivial, ⟨hpx, va_K.moved hal hG.1, by rw [ht]; exact hG.2.1, hG.2.2.1⟩, hG.2.2.2.1.F ht⟩) hG.2.2.2.1.2.2 hc hs
theorem qe_i {v : Int32} {post : Int32 → qs_S → Prop} {S0 : qs_S} {sz : Nat} (hx : p.tables.exec = Jvm.exec) (hb : c.code = cc) (hr : meth.sig.returnType = some .int) (hlocks : meth.locks = false) (hG : qs_Gd g (qs_F g S0 sz) s S H locs) (hp : post v S) (hc : cells ≤ mc) (hs : slots ≤ ms) (hdg : decode cc pc = .ok (.ireturn, 1)) :
    W p l e R s m args below meth c H locs cells slots (MQ below (va_Qi post (qs_B g (qs_F g S0 sz)) (qs_F g S0 sz)) args s mc ms (qs_F g S0 sz)) (F0 m pc ls [.int v]) :=
  W.widen hc hs (W.iret hx hb hr (fun t ht hW => ⟨⟨v, S, rfl, hp, va_K.moved hW.alike hG.1, by rw [ht]; exact hG.2.1, hG.2.2.1⟩, hG.2.2.2.1.F ht⟩) hG.2.2.2.1.2.2 hdg hlocks)
theorem qe_z {v : Int32} {post : Int32 → qs_S → Prop} {S0 : qs_S} {sz : Nat} (hx : p.tables.exec = Jvm.exec) (hb : c.code = cc) (hr : meth.sig.returnType = some .boolean) (hlocks : meth.locks = false) (h01 : v = 0 ∨ v = 1) (hG : qs_Gd g (qs_F g S0 sz) s S H locs) (hp : post v S) (hc : cells ≤ mc) (hs : slots ≤ ms) (hdg : decode cc pc = .ok (.ireturn, 1)) :
    W p l e R s m args below meth c H locs cells slots (MQ below (va_Qi post (qs_B g (qs_F g S0 sz)) (qs_F g S0 sz)) args s mc ms (qs_F g S0 sz)) (F0 m pc ls [.int v]) :=
  W.widen hc hs (W.zret hx hb hr (qs_nar01 h01) (fun t ht hW => ⟨⟨v, S, rfl, hp, va_K.moved hW.alike hG.1, by rw [ht]; exact hG.2.1, hG.2.2.1⟩, hG.2.2.2.1.F ht⟩) hG.2.2.2.1.2.2 hdg hlocks)
theorem qe_v {post : qs_S → Prop} {S0 : qs_S} {sz : Nat} (hx : p.tables.exec = Jvm.exec) (hb : c.code = cc) (hr : meth.sig.returnType = none) (hlocks : meth.locks = false) (hG : qs_Gd g (qs_F g S0 sz) s S H locs) (hp : post S) (hc : cells ≤ mc) (hs : slots ≤ ms) (hdg : decode cc pc = .ok (.return_, 1)) :
    W p l e R s m args below meth c H locs cells slots (MQ below (va_Qv post (qs_B g (qs_F g S0 sz)) (qs_F g S0 sz)) args s mc ms (qs_F g S0 sz)) (F0 m pc ls []) :=
  W.widen hc hs (W.vret hx hb hr (fun t ht hW => ⟨⟨S, rfl, hp, va_K.moved hW.alike hG.1, by rw [ht]; exact hG.2.1, hG.2.2.1⟩, hG.2.2.2.1.F ht⟩) hG.2.2.2.1.2.2 hdg hlocks)
theorem qe_q {o : Option Nat} {v : Value} {rt : FieldType} {post : Option Nat → qs_S → Prop} {S0 : qs_S} {sz : Nat} (hx : p.tables.exec = Jvm.exec) (hb : c.code = cc) (hr : meth.sig.returnType = some rt) (hlocks : meth.locks = false) (hv : va_rf o = v) (hrt : (∃ n, rt = .object n) ∨ ∃ t, rt = .array t) (hG : qs_Gd g (qs_F g S0 sz) s S H locs) (hp : post o S) (hc : cells ≤ mc) (hs : slots ≤ ms) (hdg : decode cc pc = .ok (.areturn, 1)) :
    W p l e R s m args below meth c H locs cells slots (MQ below (va_Qq post (qs_B g (qs_F g S0 sz)) (qs_F g S0 sz)) args s mc ms (qs_F g S0 sz)) (F0 m pc ls [v]) :=
  W.widen hc hs (W.aret hx hb hr hrt (by rw [← hv]; exact va_rf_or o) (fun t ht hW => ⟨⟨o, S, by rw [hv], hp, va_K.moved hW.alike hG.1, by rw [ht]; exact hG.2.1, hG.2.2.1⟩, hG.2.2.2.1.F ht⟩) hG.2.2.2.1.2.2 hdg hlocks)
theorem qs_st {fl : List String} (h : l.flags = fl) (hz : fl.contains noTraceFlag = true) : l.stackTraces = false := by
  unfold Launch.stackTraces
  rw [h, hz]
  rfl
theorem qx_throw {S0 : qs_S} {sz : Nat} {px : String → qs_S → Prop} {Qc : Array Value → State → Outcome → State → Prop} (hx : p.tables.exec = Jvm.exec) (hb : c.code = cc) (hl : l.stackTraces = false) {cls text : String} {ik is ic : Nat} {Ts : List Cond} (hts : ∀ w ∈ Ts, w.before args s = true)
    (hown : s.vm.findClass "QuayMesh" = some m.cls) (hcls : Bundle.fit cls = true) (hcst : (cls, cls) ∈ qs_cast) (hst : ("QuayMesh", is, text) ∈ qs_str)
    (hk : (Cond.classLink "QuayMesh" ik cls).before args s = true) (hini : (Cond.initialized cls).before args s = true) (hgd : ∀ w ∈ (vx_atS "QuayMesh" ic cls ["java/lang/RuntimeException", "java/lang/Exception"]).filter goodWord, w ∈ Ts) (hbd : ∀ w ∈ (vx_atS "QuayMesh" ic cls ["java/lang/RuntimeException", "java/lang/Exception"]).filter (fun w => !goodWord w), w ∈ [Cond.castable cls cls])
    (hgood : ∀ w ∈ Cond.classLink "QuayMesh" ik cls :: Cond.initialized cls :: vx_atS "QuayMesh" ic cls ["java/lang/RuntimeException", "java/lang/Exception"], vx_ot w = true)
    (hG : qs_Gd g (qs_F g S0 sz) s S H locs) (hsize : ls.size = c.maxLocals)
    (d0 : decode cc pc = .ok (.new ik, 3)) (d3 : decode cc (pc + 3) = .ok (.dup, 1)) (d4 : decode cc (pc + 4) = .ok (.ldc is, 2)) (d6 : decode cc (pc + 6) = .ok (.invokespecial ic, 3)) (d9 : decode cc (pc + 9) = .ok (.athrow, 1))
    (hout : ∀ x ∈ c.exceptionTable.toList, False) (hRf : 5 < R.frames) (hRl : (rest.map fun v => v.category).sum + (13 * 3 + 43) ≤ R.locals) (hRc : mc ≤ R.cells) (hRs : ms ≤ R.slots) (hlocks : meth.locks = false) (hpx : px cls S) (hc : cells + 1 ≤ mc) (hs : slots + 6 ≤ ms) :
    W p l e R s m args below meth c H locs cells slots (vx_MQ below Qc (qs_X g (qs_F g S0 sz) px) args s mc ms (qs_F g S0 sz)) (F0 m pc ls rest) := by
  have hE := hG.2.2.2.2.2
  obtain ⟨sa, hsa⟩ := hE.2.2.2.2.2.2.2.2 _ hst
  have hcs := va_Nw.use (A := args) rfl (hE.2.2.2.2.2.2.1 _ hcst)
  refine vx_throwS hx hb hl hown hcls (by decide +kernel) hk hini hsa (vx_hat (fun w hw => hts w (hgd w hw)) hbd (vx_c hcs vx_n)) hgood hE.2.2.1 hE.2.2.2.1 hG.2.2.2.1 hsize d0 d3 d4 d6 d9 (fun x hx => (hout x hx).elim) hRf hRl (Nat.le_trans hc hRc) (Nat.le_trans hs hRs) hlocks (fun t hal hz hk => ?_) hG.2.2.2.1.2.2 hc hs
  have hkk : ∀ (k : Nat) (q : Nat × va_E), (qs_ws g S)[k]? = some q → t.heap[q.1]? = H[q.1]? := fun k q hq => hk q.1 (hG.2.1 k q hq).lt
  exact ⟨S, trivial, ⟨hpx, va_K.moved hal hG.1, hG.2.1.kept hkk, hG.2.2.1⟩, Nat.le_trans hG.2.2.2.1.1 hz, fun q h1 h2 => (hk q (Nat.lt_of_lt_of_le h1 hG.2.2.2.1.1)).trans (hG.2.2.2.1.2.1 q h1 h2)⟩
theorem qx_throwW {S0 : qs_S} {sz : Nat} {px : String → qs_S → Prop} {Qc : Array Value → State → Outcome → State → Prop} (hx : p.tables.exec = Jvm.exec) (hb : c.code = cc) (hl : l.stackTraces = false) {cls text : String} {ik is ic : Nat} {Ts : List Cond} (hts : ∀ w ∈ Ts, w.before args s = true)
    (hown : s.vm.findClass "QuayMesh" = some m.cls) (hcls : Bundle.fit cls = true) (hcst : (cls, cls) ∈ qs_cast) (hst : ("QuayMesh", is, text) ∈ qs_str)
    (hk : (Cond.classLink "QuayMesh" ik cls).before args s = true) (hini : (Cond.initialized cls).before args s = true) (hgd : ∀ w ∈ (vx_atS "QuayMesh" ic cls ["java/lang/RuntimeException", "java/lang/Exception"]).filter goodWord, w ∈ Ts) (hbd : ∀ w ∈ (vx_atS "QuayMesh" ic cls ["java/lang/RuntimeException", "java/lang/Exception"]).filter (fun w => !goodWord w), w ∈ [Cond.castable cls cls])
    (hgood : ∀ w ∈ Cond.classLink "QuayMesh" ik cls :: Cond.initialized cls :: vx_atS "QuayMesh" ic cls ["java/lang/RuntimeException", "java/lang/Exception"], vx_ot w = true)
    (hG : qs_Gd g (qs_F g S0 sz) s S H locs) (hsize : ls.size = c.maxLocals)
    (d0 : decode cc pc = .ok (.new ik, 3)) (d3 : decode cc (pc + 3) = .ok (.dup, 1)) (d4 : decode cc (pc + 4) = .ok (.ldc_w is, 3)) (d6 : decode cc (pc + 7) = .ok (.invokespecial ic, 3)) (d9 : decode cc (pc + 10) = .ok (.athrow, 1))
    (hout : ∀ x ∈ c.exceptionTable.toList, False) (hRf : 5 < R.frames) (hRl : (rest.map fun v => v.category).sum + (13 * 3 + 43) ≤ R.locals) (hRc : mc ≤ R.cells) (hRs : ms ≤ R.slots) (hlocks : meth.locks = false) (hpx : px cls S) (hc : cells + 1 ≤ mc) (hs : slots + 6 ≤ ms) :
    W p l e R s m args below meth c H locs cells slots (vx_MQ below Qc (qs_X g (qs_F g S0 sz) px) args s mc ms (qs_F g S0 sz)) (F0 m pc ls rest) := by
  have hE := hG.2.2.2.2.2
  obtain ⟨sa, hsa⟩ := hE.2.2.2.2.2.2.2.2 _ hst
  have hcs := va_Nw.use (A := args) rfl (hE.2.2.2.2.2.2.1 _ hcst)
  refine vx_throwSW hx hb hl hown hcls (by decide +kernel) hk hini hsa (vx_hat (fun w hw => hts w (hgd w hw)) hbd (vx_c hcs vx_n)) hgood hE.2.2.1 hE.2.2.2.1 hG.2.2.2.1 hsize d0 d3 d4 d6 d9 (fun x hx => (hout x hx).elim) hRf hRl (Nat.le_trans hc hRc) (Nat.le_trans hs hRs) hlocks (fun t hal hz hk => ?_) hG.2.2.2.1.2.2 hc hs
  have hkk : ∀ (k : Nat) (q : Nat × va_E), (qs_ws g S)[k]? = some q → t.heap[q.1]? = H[q.1]? := fun k q hq => hk q.1 (hG.2.1 k q hq).lt
  exact ⟨S, trivial, ⟨hpx, va_K.moved hal hG.1, hG.2.1.kept hkk, hG.2.2.1⟩, Nat.le_trans hG.2.2.2.1.1 hz, fun q h1 h2 => (hk q (Nat.lt_of_lt_of_le h1 hG.2.2.2.1.1)).trans (hG.2.2.2.1.2.1 q h1 h2)⟩
end QSC

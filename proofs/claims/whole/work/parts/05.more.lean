/-- facts about old cells beside a new one -/
theorem qs_nwL {S : qs_S} {a q ci : Nat} (h : a ∈ qs_L S) : a ∈ qs_L (qs_nw S q ci) := List.mem_append_left _ h
theorem qs_nwN {S : qs_S} {q ci : Nat} : q ∈ qs_L (qs_nw S q ci) := List.mem_append_right _ List.mem_cons_self
theorem qs_nwM {S : qs_S} {q ci : Nat} : qs_K (qs_nw S q ci) q = ci := if_pos rfl
theorem qs_nwE {S : qs_S} {a q ci : Nat} (hq : q ∉ qs_L S) (h : a ∈ qs_L S) : qs_K (qs_nw S q ci) a = qs_K S a := if_neg (fun z : a = q => hq (z ▸ h))
theorem qs_nwK {S : qs_S} {a q ci k : Nat} (hq : q ∉ qs_L S) (h : a ∈ qs_L S) (hk : qs_K S a = k) : qs_K (qs_nw S q ci) a = k := (qs_nwE hq h).trans hk
theorem qs_nwKW {S : qs_S} {a q ci : Nat} (hq : q ∉ qs_L S) (h : a ∈ qs_L S) (hk : qs_K S a = 2 ∨ qs_K S a = 5) : qs_K (qs_nw S q ci) a = 2 ∨ qs_K (qs_nw S q ci) a = 5 := by rw [qs_nwE hq h]; exact hk
theorem qs_nwK8 {S : qs_S} {a q ci : Nat} (hq : q ∉ qs_L S) (h : a ∈ qs_L S) (hk : qs_K S a < 8) : qs_K (qs_nw S q ci) a < 8 := by rw [qs_nwE hq h]; exact hk
theorem qs_nAL {S : qs_S} {a q ci n : Nat} (h : a ∈ qs_L S) : a ∈ qs_L (qs_nA S q ci n) := List.mem_append_left _ h
theorem qs_nAN {S : qs_S} {q ci n : Nat} : q ∈ qs_L (qs_nA S q ci n) := List.mem_append_right _ List.mem_cons_self
theorem qs_nAM {S : qs_S} {q ci n : Nat} : qs_K (qs_nA S q ci n) q = ci := if_pos rfl
theorem qs_nAE {S : qs_S} {a q ci n : Nat} (hq : q ∉ qs_L S) (h : a ∈ qs_L S) : qs_K (qs_nA S q ci n) a = qs_K S a := if_neg (fun z : a = q => hq (z ▸ h))
theorem qs_nAK {S : qs_S} {a q ci n k : Nat} (hq : q ∉ qs_L S) (h : a ∈ qs_L S) (hk : qs_K S a = k) : qs_K (qs_nA S q ci n) a = k := (qs_nAE hq h).trans hk
theorem qs_nAKW {S : qs_S} {a q ci n : Nat} (hq : q ∉ qs_L S) (h : a ∈ qs_L S) (hk : qs_K S a = 2 ∨ qs_K S a = 5) : qs_K (qs_nA S q ci n) a = 2 ∨ qs_K (qs_nA S q ci n) a = 5 := by rw [qs_nAE hq h]; exact hk
theorem qs_nAK8 {S : qs_S} {a q ci n : Nat} (hq : q ∉ qs_L S) (h : a ∈ qs_L S) (hk : qs_K S a < 8) : qs_K (qs_nA S q ci n) a < 8 := by rw [qs_nAE hq h]; exact hk
def qs_f0 (ci : Nat) : List Value := (qs_fk ci).map (fun b => if b = true then .null else .int 0)
theorem qs_fs_nw {S : qs_S} {q ci : Nat} : qs_fs (qs_nw S q ci) q ci = qs_f0 ci := by
  refine List.ext_getElem? (fun j => ?_)
  unfold qs_fs qs_f0
  rw [List.getElem?_mapIdx, List.getElem?_map]
  congr 1
  funext b
  cases b
  · show Value.int (if q = q then 0 else qs_I S j q) = Value.int 0
    rw [if_pos rfl]
  · show va_rf (if q = q then none else qs_R S j q) = Value.null
    rw [if_pos rfl]
    rfl
theorem hf9_0 : ∀ (S : qs_S) (q : Nat) (j : Nat), j < 3 → defaultValue (tyJx4a65c j) = vp_V (qs_fs (qs_nw S q 0) q 0) j := by
  intro S q j hj
  rw [qs_fs_nw]
  rcases (show j = 0 ∨ j = 1 ∨ j = 2 by omega) with rfl | rfl | rfl <;> rfl
theorem hf9_1 : ∀ (S : qs_S) (q : Nat) (j : Nat), j < 8 → defaultValue (tyX0 j) = vp_V (qs_fs (qs_nw S q 1) q 1) j := by
  intro S q j hj
  rw [qs_fs_nw]
  rcases (show j = 0 ∨ j = 1 ∨ j = 2 ∨ j = 3 ∨ j = 4 ∨ j = 5 ∨ j = 6 ∨ j = 7 by omega) with rfl | rfl | rfl | rfl | rfl | rfl | rfl | rfl <;> rfl
theorem hf9_2 : ∀ (S : qs_S) (q : Nat) (j : Nat), j < 8 → defaultValue (tyX1 j) = vp_V (qs_fs (qs_nw S q 2) q 2) j := by
  intro S q j hj
  rw [qs_fs_nw]
  rcases (show j = 0 ∨ j = 1 ∨ j = 2 ∨ j = 3 ∨ j = 4 ∨ j = 5 ∨ j = 6 ∨ j = 7 by omega) with rfl | rfl | rfl | rfl | rfl | rfl | rfl | rfl <;> rfl
theorem hf9_3 : ∀ (S : qs_S) (q : Nat) (j : Nat), j < 7 → defaultValue (tyX2 j) = vp_V (qs_fs (qs_nw S q 3) q 3) j := by
  intro S q j hj
  rw [qs_fs_nw]
  rcases (show j = 0 ∨ j = 1 ∨ j = 2 ∨ j = 3 ∨ j = 4 ∨ j = 5 ∨ j = 6 by omega) with rfl | rfl | rfl | rfl | rfl | rfl | rfl <;> rfl
theorem hf9_4 : ∀ (S : qs_S) (q : Nat) (j : Nat), j < 3 → defaultValue (tyX3 j) = vp_V (qs_fs (qs_nw S q 4) q 4) j := by
  intro S q j hj
  rw [qs_fs_nw]
  rcases (show j = 0 ∨ j = 1 ∨ j = 2 by omega) with rfl | rfl | rfl <;> rfl
theorem hf9_5 : ∀ (S : qs_S) (q : Nat) (j : Nat), j < 8 → defaultValue (tyX4 j) = vp_V (qs_fs (qs_nw S q 5) q 5) j := by
  intro S q j hj
  rw [qs_fs_nw]
  rcases (show j = 0 ∨ j = 1 ∨ j = 2 ∨ j = 3 ∨ j = 4 ∨ j = 5 ∨ j = 6 ∨ j = 7 by omega) with rfl | rfl | rfl | rfl | rfl | rfl | rfl | rfl <;> rfl
theorem hf9_6 : ∀ (S : qs_S) (q : Nat) (j : Nat), j < 8 → defaultValue (tyX6 j) = vp_V (qs_fs (qs_nw S q 6) q 6) j := by
  intro S q j hj
  rw [qs_fs_nw]
  rcases (show j = 0 ∨ j = 1 ∨ j = 2 ∨ j = 3 ∨ j = 4 ∨ j = 5 ∨ j = 6 ∨ j = 7 by omega) with rfl | rfl | rfl | rfl | rfl | rfl | rfl | rfl <;> rfl
theorem hf9_7 : ∀ (S : qs_S) (q : Nat) (j : Nat), j < 35 → defaultValue (tyX7 j) = vp_V (qs_fs (qs_nw S q 7) q 7) j := by
  intro S q j hj
  rw [qs_fs_nw]
  rcases (show j = 0 ∨ j = 1 ∨ j = 2 ∨ j = 3 ∨ j = 4 ∨ j = 5 ∨ j = 6 ∨ j = 7 ∨ j = 8 ∨ j = 9 ∨ j = 10 ∨ j = 11 ∨ j = 12 ∨ j = 13 ∨ j = 14 ∨ j = 15 ∨ j = 16 ∨ j = 17 ∨ j = 18 ∨ j = 19 ∨ j = 20 ∨ j = 21 ∨ j = 22 ∨ j = 23 ∨ j = 24 ∨ j = 25 ∨ j = 26 ∨ j = 27 ∨ j = 28 ∨ j = 29 ∨ j = 30 ∨ j = 31 ∨ j = 32 ∨ j = 33 ∨ j = 34 by omega) with rfl | rfl | rfl | rfl | rfl | rfl | rfl | rfl | rfl | rfl | rfl | rfl | rfl | rfl | rfl | rfl | rfl | rfl | rfl | rfl | rfl | rfl | rfl | rfl | rfl | rfl | rfl | rfl | rfl | rfl | rfl | rfl | rfl | rfl | rfl <;> rfl
theorem qt_bd_IAE : ∀ w ∈ (vx_atS "QuayMesh" 59 "java/lang/IllegalArgumentException" ["java/lang/RuntimeException", "java/lang/Exception"]).filter (fun w => !goodWord w), w ∈ [Cond.castable "java/lang/IllegalArgumentException" "java/lang/IllegalArgumentException", Cond.declares (Bundle.initS "java/lang/RuntimeException"), Cond.declares (Bundle.initS "java/lang/Exception"), Cond.declares (Bundle.initS "java/lang/Throwable")] := by decide +kernel
theorem qt_gd_IAE : ∀ w ∈ Cond.classLink "QuayMesh" 55 "java/lang/IllegalArgumentException" :: Cond.initialized "java/lang/IllegalArgumentException" :: vx_atS "QuayMesh" 59 "java/lang/IllegalArgumentException" ["java/lang/RuntimeException", "java/lang/Exception"], vx_ot w = true := by decide +kernel
theorem qt_bd_ISE : ∀ w ∈ (vx_atS "QuayMesh" 74 "java/lang/IllegalStateException" ["java/lang/RuntimeException", "java/lang/Exception"]).filter (fun w => !goodWord w), w ∈ [Cond.castable "java/lang/IllegalStateException" "java/lang/IllegalStateException", Cond.declares (Bundle.initS "java/lang/RuntimeException"), Cond.declares (Bundle.initS "java/lang/Exception"), Cond.declares (Bundle.initS "java/lang/Throwable")] := by decide +kernel
theorem qt_gd_ISE : ∀ w ∈ Cond.classLink "QuayMesh" 70 "java/lang/IllegalStateException" :: Cond.initialized "java/lang/IllegalStateException" :: vx_atS "QuayMesh" 74 "java/lang/IllegalStateException" ["java/lang/RuntimeException", "java/lang/Exception"], vx_ot w = true := by decide +kernel
theorem qt_bd_IOB : ∀ w ∈ (vx_atS "QuayMesh" 131 "java/lang/IndexOutOfBoundsException" ["java/lang/RuntimeException", "java/lang/Exception"]).filter (fun w => !goodWord w), w ∈ [Cond.castable "java/lang/IndexOutOfBoundsException" "java/lang/IndexOutOfBoundsException", Cond.declares (Bundle.initS "java/lang/RuntimeException"), Cond.declares (Bundle.initS "java/lang/Exception"), Cond.declares (Bundle.initS "java/lang/Throwable")] := by decide +kernel
theorem qt_gd_IOB : ∀ w ∈ Cond.classLink "QuayMesh" 127 "java/lang/IndexOutOfBoundsException" :: Cond.initialized "java/lang/IndexOutOfBoundsException" :: vx_atS "QuayMesh" 131 "java/lang/IndexOutOfBoundsException" ["java/lang/RuntimeException", "java/lang/Exception"], vx_ot w = true := by decide +kernel
section QSM
variable {p : Program} {l : Launch} {e : Env} {R : Room} {s : State} {m : MethodId} {args : Array Value} {below : List Frame} {meth : Method} {c : Code} {H : Heap} {locs : List Loc} {cells slots : Nat} {Q : State → Prop}
variable {cc : ByteArray} {pc : Nat} {ls : Array Slot} {rest : List Value} {g : qs_G} {A : Nat → Prop} {S : qs_S} {a : Nat}
theorem qs_Gd.recvO (hG : qs_Gd g A s S H locs) (hL : a ∈ qs_L S) (hk : qs_K S a = 10) : ∃ cell : Cell, H[a]? = some cell ∧ cell.vm.isStatics = false ∧ s.vm.findClass "[Ljava/lang/Object;" = some cell.cls := by
  obtain ⟨i, hz⟩ := qs_at g hL
  rw [qs_e10 g hk] at hz
  exact ⟨_, hG.2.1 i _ hz, rfl, va_nmO (hG.1.2 2 (g.2.2.2.1, .object "java/lang/Object") rfl).2 rfl⟩
theorem qr_getW (hx : p.tables.exec = Jvm.exec) (hb : c.code = cc) {own ref : String} {index : Nat} {Ts : List Cond} (hts : ∀ w ∈ Ts, w.before args s = true) (in2 : ∀ w ∈ u_ws RX1 TX1 8, w ∈ Ts) (in5 : ∀ w ∈ u_ws RX4 TX4 8, w ∈ Ts) (hown : s.vm.findClass own = some m.cls) (hG : qs_Gd g A s S H locs) (hL : a ∈ qs_L S) (hk : qs_K S a = 2 ∨ qs_K S a = 5) (k : Nat) (hkN : k < 8) {b : Bool} (hfk : (qs_fk 2)[k]? = some b) (hT : TX1 k = TX4 k ∧ (qs_fk 5)[k]? = (qs_fk 2)[k]?) (hlink : (Cond.fieldLink own index ref (TX1 k).2.1 (TX1 k).2.2.1).before args s = true) (hs2 : ∀ x, s.fieldFound? (TX1 k).1 (TX1 k).2.1 (TX1 k).2.2.1 = some x → s.fieldFound? ref (TX1 k).2.1 (TX1 k).2.2.1 = some x) (hs5 : ∀ x, s.fieldFound? (TX4 k).1 (TX4 k).2.1 (TX4 k).2.2.1 = some x → s.fieldFound? ref (TX4 k).2.1 (TX4 k).2.2.1 = some x) {v : Value} (hv : qs_fv S a k b = v) (hdg : decode cc pc = .ok (.getfield index, 3))
    (kk : W p l e R s m args below meth c H locs cells slots Q (F0 m (pc + 3) ls (v :: rest))) : W p l e R s m args below meth c H locs cells slots Q (F0 m pc ls (.ref a :: rest)) := by
  rcases hk with hk | hk
  · exact qr_get (C := RX1) (T := TX1) (N := 8) (ci := 2) hx hb hts in2 hown hG hL hk (by decide) rfl k hkN hfk hlink hs2 hv hdg kk
  · exact qr_get (C := RX4) (T := TX4) (N := 8) (ci := 5) hx hb hts in5 hown hG hL hk (by decide) rfl k hkN (hT.2.trans hfk) (by rw [← hT.1]; exact hlink) hs5 hv hdg kk
theorem qr_putIW (hx : p.tables.exec = Jvm.exec) (hb : c.code = cc) {own ref : String} {index : Nat} {Ts : List Cond} (hts : ∀ w ∈ Ts, w.before args s = true) (in2 : ∀ w ∈ u_ws RX1 TX1 8, w ∈ Ts) (in5 : ∀ w ∈ u_ws RX4 TX4 8, w ∈ Ts) (hown : s.vm.findClass own = some m.cls) (hG : qs_Gd g A s S H locs) (hL : a ∈ qs_L S) (hk : qs_K S a = 2 ∨ qs_K S a = 5) (k : Nat) (hkN : k < 8) (hfk : (qs_fk 2)[k]? = some false) (hT : TX1 k = TX4 k ∧ (qs_fk 5)[k]? = (qs_fk 2)[k]?) (hlink : (Cond.fieldLink own index ref (TX1 k).2.1 (TX1 k).2.2.1).before args s = true) (hs2 : ∀ x, s.fieldFound? (TX1 k).1 (TX1 k).2.1 (TX1 k).2.2.1 = some x → s.fieldFound? ref (TX1 k).2.1 (TX1 k).2.2.1 = some x) (hs5 : ∀ x, s.fieldFound? (TX4 k).1 (TX4 k).2.1 (TX4 k).2.2.1 = some x → s.fieldFound? ref (TX4 k).2.1 (TX4 k).2.2.1 = some x) (hfin : (TX1 k).2.2.2 = false) {ty : FieldType} {x : Int32} (hd : parseFieldDescriptor (TX1 k).2.2.1 = some ty) (hn : narrow ty (.int x) = .int x) (hfit : fits ty (.int x) = true) (hdg : decode cc pc = .ok (.putfield index, 3))
    (kk : ∀ (H1 : Heap) (locs1 : List Loc), qs_Gd g A s (qs_wI S k a x) H1 locs1 → W p l e R s m args below meth c H1 locs1 cells slots Q (F0 m (pc + 3) ls rest)) : W p l e R s m args below meth c H locs cells slots Q (F0 m pc ls (.int x :: .ref a :: rest)) := by
  rcases hk with hk | hk
  · exact qr_putI (C := RX1) (T := TX1) (N := 8) (ci := 2) hx hb hts in2 tyX1 tyX1_ok nmX1 hown hG hL hk (by decide) rfl k hkN hfk hlink hs2 hfin hd hn hfit hdg kk
  · exact qr_putI (C := RX4) (T := TX4) (N := 8) (ci := 5) hx hb hts in5 tyX4 tyX4_ok nmX4 hown hG hL hk (by decide) rfl k hkN (hT.2.trans hfk) (by rw [← hT.1]; exact hlink) hs5 (by rw [← hT.1]; exact hfin) (by rw [← hT.1]; exact hd) hn hfit hdg kk
theorem qr_putIWF (hx : p.tables.exec = Jvm.exec) (hb : c.code = cc) {own ref : String} {index : Nat} {Ts : List Cond} (hts : ∀ w ∈ Ts, w.before args s = true) (in2 : ∀ w ∈ u_ws RX1 TX1 8, w ∈ Ts) (in5 : ∀ w ∈ u_ws RX4 TX4 8, w ∈ Ts) (hown : s.vm.findClass own = some m.cls) (hG : qs_Gd g A s S H locs) (hL : a ∈ qs_L S) (hk : qs_K S a = 2 ∨ qs_K S a = 5) (k : Nat) (hkN : k < 8) (hfk : (qs_fk 2)[k]? = some false) (hT : TX1 k = TX4 k ∧ (qs_fk 5)[k]? = (qs_fk 2)[k]?) (hlink : (Cond.fieldLink own index ref (TX1 k).2.1 (TX1 k).2.2.1).before args s = true) (hs2 : ∀ x, s.fieldFound? (TX1 k).1 (TX1 k).2.1 (TX1 k).2.2.1 = some x → s.fieldFound? ref (TX1 k).2.1 (TX1 k).2.2.1 = some x) (hs5 : ∀ x, s.fieldFound? (TX4 k).1 (TX4 k).2.1 (TX4 k).2.2.1 = some x → s.fieldFound? ref (TX4 k).2.1 (TX4 k).2.2.1 = some x) (hfin : (TX1 k).2.2.2 = true) (hin2 : meth.name = "<init>") (hdecl : (TX1 k).1 = own) {ty : FieldType} {x : Int32} (hd : parseFieldDescriptor (TX1 k).2.2.1 = some ty) (hn : narrow ty (.int x) = .int x) (hfit : fits ty (.int x) = true) (hdg : decode cc pc = .ok (.putfield index, 3))
    (kk : ∀ (H1 : Heap) (locs1 : List Loc), qs_Gd g A s (qs_wI S k a x) H1 locs1 → W p l e R s m args below meth c H1 locs1 cells slots Q (F0 m (pc + 3) ls rest)) : W p l e R s m args below meth c H locs cells slots Q (F0 m pc ls (.int x :: .ref a :: rest)) := by
  rcases hk with hk | hk
  · exact qr_putIF (C := RX1) (T := TX1) (N := 8) (ci := 2) hx hb hts in2 tyX1 tyX1_ok nmX1 hown hG hL hk (by decide) rfl k hkN hfk hlink hs2 hfin hin2 hdecl hd hn hfit hdg kk
  · exact qr_putIF (C := RX4) (T := TX4) (N := 8) (ci := 5) hx hb hts in5 tyX4 tyX4_ok nmX4 hown hG hL hk (by decide) rfl k hkN (hT.2.trans hfk) (by rw [← hT.1]; exact hlink) hs5 (by rw [← hT.1]; exact hfin) hin2 (by rw [← hT.1]; exact hdecl) (by rw [← hT.1]; exact hd) hn hfit hdg kk
theorem qr_putRW (hx : p.tables.exec = Jvm.exec) (hb : c.code = cc) {own ref : String} {index : Nat} {Ts : List Cond} (hts : ∀ w ∈ Ts, w.before args s = true) (in2 : ∀ w ∈ u_ws RX1 TX1 8, w ∈ Ts) (in5 : ∀ w ∈ u_ws RX4 TX4 8, w ∈ Ts) (hown : s.vm.findClass own = some m.cls) (hG : qs_Gd g A s S H locs) (hL : a ∈ qs_L S) (hk : qs_K S a = 2 ∨ qs_K S a = 5) (k : Nat) (hkN : k < 8) (hfk : (qs_fk 2)[k]? = some true) (hT : TX1 k = TX4 k ∧ (qs_fk 5)[k]? = (qs_fk 2)[k]?) (hlink : (Cond.fieldLink own index ref (TX1 k).2.1 (TX1 k).2.2.1).before args s = true) (hs2 : ∀ x, s.fieldFound? (TX1 k).1 (TX1 k).2.1 (TX1 k).2.2.1 = some x → s.fieldFound? ref (TX1 k).2.1 (TX1 k).2.2.1 = some x) (hs5 : ∀ x, s.fieldFound? (TX4 k).1 (TX4 k).2.1 (TX4 k).2.2.1 = some x → s.fieldFound? ref (TX4 k).2.1 (TX4 k).2.2.1 = some x) (hfin : (TX1 k).2.2.2 = false) {ty : FieldType} {x : Option Nat} {v : Value} (hv : va_rf x = v) (hd : parseFieldDescriptor (TX1 k).2.2.1 = some ty) (hn : narrow ty (v) = v) (hfit : fits ty (v) = true) (hdg : decode cc pc = .ok (.putfield index, 3))
    (kk : ∀ (H1 : Heap) (locs1 : List Loc), qs_Gd g A s (qs_wR S k a x) H1 locs1 → W p l e R s m args below meth c H1 locs1 cells slots Q (F0 m (pc + 3) ls rest)) : W p l e R s m args below meth c H locs cells slots Q (F0 m pc ls (v :: .ref a :: rest)) := by
  rcases hk with hk | hk
  · exact qr_putR (C := RX1) (T := TX1) (N := 8) (ci := 2) hx hb hts in2 tyX1 tyX1_ok nmX1 hown hG hL hk (by decide) rfl k hkN hfk hlink hs2 hfin hv hd hn hfit hdg kk
  · exact qr_putR (C := RX4) (T := TX4) (N := 8) (ci := 5) hx hb hts in5 tyX4 tyX4_ok nmX4 hown hG hL hk (by decide) rfl k hkN (hT.2.trans hfk) (by rw [← hT.1]; exact hlink) hs5 (by rw [← hT.1]; exact hfin) hv (by rw [← hT.1]; exact hd) hn hfit hdg kk
theorem qr_putRWF (hx : p.tables.exec = Jvm.exec) (hb : c.code = cc) {own ref : String} {index : Nat} {Ts : List Cond} (hts : ∀ w ∈ Ts, w.before args s = true) (in2 : ∀ w ∈ u_ws RX1 TX1 8, w ∈ Ts) (in5 : ∀ w ∈ u_ws RX4 TX4 8, w ∈ Ts) (hown : s.vm.findClass own = some m.cls) (hG : qs_Gd g A s S H locs) (hL : a ∈ qs_L S) (hk : qs_K S a = 2 ∨ qs_K S a = 5) (k : Nat) (hkN : k < 8) (hfk : (qs_fk 2)[k]? = some true) (hT : TX1 k = TX4 k ∧ (qs_fk 5)[k]? = (qs_fk 2)[k]?) (hlink : (Cond.fieldLink own index ref (TX1 k).2.1 (TX1 k).2.2.1).before args s = true) (hs2 : ∀ x, s.fieldFound? (TX1 k).1 (TX1 k).2.1 (TX1 k).2.2.1 = some x → s.fieldFound? ref (TX1 k).2.1 (TX1 k).2.2.1 = some x) (hs5 : ∀ x, s.fieldFound? (TX4 k).1 (TX4 k).2.1 (TX4 k).2.2.1 = some x → s.fieldFound? ref (TX4 k).2.1 (TX4 k).2.2.1 = some x) (hfin : (TX1 k).2.2.2 = true) (hin2 : meth.name = "<init>") (hdecl : (TX1 k).1 = own) {ty : FieldType} {x : Option Nat} {v : Value} (hv : va_rf x = v) (hd : parseFieldDescriptor (TX1 k).2.2.1 = some ty) (hn : narrow ty (v) = v) (hfit : fits ty (v) = true) (hdg : decode cc pc = .ok (.putfield index, 3))
    (kk : ∀ (H1 : Heap) (locs1 : List Loc), qs_Gd g A s (qs_wR S k a x) H1 locs1 → W p l e R s m args below meth c H1 locs1 cells slots Q (F0 m (pc + 3) ls rest)) : W p l e R s m args below meth c H locs cells slots Q (F0 m pc ls (v :: .ref a :: rest)) := by
  rcases hk with hk | hk
  · exact qr_putRF (C := RX1) (T := TX1) (N := 8) (ci := 2) hx hb hts in2 tyX1 tyX1_ok nmX1 hown hG hL hk (by decide) rfl k hkN hfk hlink hs2 hfin hin2 hdecl hv hd hn hfit hdg kk
  · exact qr_putRF (C := RX4) (T := TX4) (N := 8) (ci := 5) hx hb hts in5 tyX4 tyX4_ok nmX4 hown hG hL hk (by decide) rfl k hkN (hT.2.trans hfk) (by rw [← hT.1]; exact hlink) hs5 (by rw [← hT.1]; exact hfin) hin2 (by rw [← hT.1]; exact hdecl) hv (by rw [← hT.1]; exact hd) hn hfit hdg kk
end QSM

section QSR
variable {p : Program} {l : Launch} {e : Env} {R : Room} {s : State} {m : MethodId} {args : Array Value} {below : List Frame} {meth : Method} {c : Code} {H : Heap} {locs : List Loc} {cells slots : Nat} {Q : State → Prop}
variable {cc : ByteArray} {pc : Nat} {ls : Array Slot} {rest : List Value} {g : qs_G} {A : Nat → Prop} {S : qs_S} {a : Nat}
theorem qs_rf {o : Option Nat} {b : Nat} (h : o = some b) : va_rf o = .ref b := by rw [h]; rfl
theorem qs_rn {o : Option Nat} (h : o = none) : va_rf o = .null := by rw [h]; rfl
theorem qr_get (hx : p.tables.exec = Jvm.exec) (hb : c.code = cc) {own ref C : String} {T : u_T} {N ci index : Nat} {Ts : List Cond} (hts : ∀ w ∈ Ts, w.before args s = true) (hin : ∀ w ∈ u_ws C T N, w ∈ Ts) (hown : s.vm.findClass own = some m.cls) (hG : qs_Gd g A s S H locs) (hL : a ∈ qs_L S) (hk : qs_K S a = ci) (h8 : ci < 8) (hc : vwCl[ci]? = some (C, T, N)) (k : Nat) (hkN : k < N) {b : Bool} (hfk : (qs_fk ci)[k]? = some b) (hlink : (Cond.fieldLink own index ref (T k).2.1 (T k).2.2.1).before args s = true) (hsame : ∀ x, s.fieldFound? (T k).1 (T k).2.1 (T k).2.2.1 = some x → s.fieldFound? ref (T k).2.1 (T k).2.2.1 = some x) {v : Value} (hv : qs_fv S a k b = v) (hdg : decode cc pc = .ok (.getfield index, 3))
    (kk : W p l e R s m args below meth c H locs cells slots Q (F0 m (pc + 3) ls (v :: rest))) : W p l e R s m args below meth c H locs cells slots Q (F0 m pc ls (.ref a :: rest)) := by
  obtain ⟨i, hz⟩ := qs_at g hL
  rw [qs_eo g hk h8] at hz
  exact va_get hx hb hts hin hown hG.1 hG.2.1 i hz hc k hkN hlink hsame (by rw [qs_fs_at hfk, hv]) hdg kk
theorem qs_e_wI {k b : Nat} {x : Int32} (h : b ≠ a) : qs_e g S b = qs_e g (qs_wI S k a x) b := by
  unfold qs_e
  rw [qs_fs_wI_ne (S := S) (k := k) (v := x) h]
  rfl
theorem qs_wI_set {k i ci : Nat} {x : Int32} (hD : va_D A (qs_ws g S)) (hL : a ∈ qs_L S) (hk : qs_K S a = ci) (h8 : ci < 8) (hz : (qs_ws g S)[i]? = some (a, qs_e g S a)) (hfk : (qs_fk ci)[k]? = some false) : (qs_ws g S).set i (a, .inr (ci, (qs_fs S a ci).set k (.int x))) = qs_ws g (qs_wI S k a x) :=
  qs_set g hD hL hz rfl (by rw [qs_eo g (S := qs_wI S k a x) hk h8, qs_fs_wI hfk]) (fun b hb => qs_e_wI hb)
theorem qr_putI (hx : p.tables.exec = Jvm.exec) (hb : c.code = cc) {own ref C : String} {T : u_T} {N ci index : Nat} {Ts : List Cond} (hts : ∀ w ∈ Ts, w.before args s = true) (hin : ∀ w ∈ u_ws C T N, w ∈ Ts) (ty0 : Nat → FieldType) (hty : ∀ k, k < N → parseFieldDescriptor (T k).2.2.1 = some (ty0 k)) (hnm : ∀ a, a < N → ∀ b, b < N → a ≠ b → (T a).2.1 ≠ (T b).2.1) (hown : s.vm.findClass own = some m.cls) (hG : qs_Gd g A s S H locs) (hL : a ∈ qs_L S) (hk : qs_K S a = ci) (h8 : ci < 8) (hc : vwCl[ci]? = some (C, T, N)) (k : Nat) (hkN : k < N) (hfk : (qs_fk ci)[k]? = some false) (hlink : (Cond.fieldLink own index ref (T k).2.1 (T k).2.2.1).before args s = true) (hsame : ∀ x, s.fieldFound? (T k).1 (T k).2.1 (T k).2.2.1 = some x → s.fieldFound? ref (T k).2.1 (T k).2.2.1 = some x) (hfin : (T k).2.2.2 = false) {ty : FieldType} {x : Int32} (hd : parseFieldDescriptor (T k).2.2.1 = some ty) (hn : narrow ty (.int x) = .int x) (hfit : fits ty (.int x) = true) (hdg : decode cc pc = .ok (.putfield index, 3))
    (kk : ∀ (H1 : Heap) (locs1 : List Loc), qs_Gd g A s (qs_wI S k a x) H1 locs1 → W p l e R s m args below meth c H1 locs1 cells slots Q (F0 m (pc + 3) ls rest)) : W p l e R s m args below meth c H locs cells slots Q (F0 m pc ls (.int x :: .ref a :: rest)) := by
  skip
  obtain ⟨i, hz⟩ := qs_at g hL
  have hz' := hz
  rw [qs_eo g hk h8] at hz'
  refine va_put hx hb hts hin ty0 hty hnm hown hG.1 hG.2.1 hG.2.2.1 hG.2.2.2.1 i hz' hc k hkN hlink hsame hfin hd hn hfit (qs_fs_len hfk) hdg (fun H1 locs1 hP hD hS => ?_)
  rw [qs_wI_set hG.2.2.1 hL hk h8 hz hfk] at hP hD
  exact kk H1 locs1 ⟨hG.1, hP, hD, hS, hG.2.2.2.2⟩
theorem qr_putIF (hx : p.tables.exec = Jvm.exec) (hb : c.code = cc) {own ref C : String} {T : u_T} {N ci index : Nat} {Ts : List Cond} (hts : ∀ w ∈ Ts, w.before args s = true) (hin : ∀ w ∈ u_ws C T N, w ∈ Ts) (ty0 : Nat → FieldType) (hty : ∀ k, k < N → parseFieldDescriptor (T k).2.2.1 = some (ty0 k)) (hnm : ∀ a, a < N → ∀ b, b < N → a ≠ b → (T a).2.1 ≠ (T b).2.1) (hown : s.vm.findClass own = some m.cls) (hG : qs_Gd g A s S H locs) (hL : a ∈ qs_L S) (hk : qs_K S a = ci) (h8 : ci < 8) (hc : vwCl[ci]? = some (C, T, N)) (k : Nat) (hkN : k < N) (hfk : (qs_fk ci)[k]? = some false) (hlink : (Cond.fieldLink own index ref (T k).2.1 (T k).2.2.1).before args s = true) (hsame : ∀ x, s.fieldFound? (T k).1 (T k).2.1 (T k).2.2.1 = some x → s.fieldFound? ref (T k).2.1 (T k).2.2.1 = some x) (hfin : (T k).2.2.2 = true) (hin2 : meth.name = "<init>") (hdecl : (T k).1 = own) {ty : FieldType} {x : Int32} (hd : parseFieldDescriptor (T k).2.2.1 = some ty) (hn : narrow ty (.int x) = .int x) (hfit : fits ty (.int x) = true) (hdg : decode cc pc = .ok (.putfield index, 3))
    (kk : ∀ (H1 : Heap) (locs1 : List Loc), qs_Gd g A s (qs_wI S k a x) H1 locs1 → W p l e R s m args below meth c H1 locs1 cells slots Q (F0 m (pc + 3) ls rest)) : W p l e R s m args below meth c H locs cells slots Q (F0 m pc ls (.int x :: .ref a :: rest)) := by
  skip
  obtain ⟨i, hz⟩ := qs_at g hL
  have hz' := hz
  rw [qs_eo g hk h8] at hz'
  refine va_putF hx hb hts hin ty0 hty hnm hown hG.1 hG.2.1 hG.2.2.1 hG.2.2.2.1 i hz' hc k hkN hlink hsame hfin hin2 hdecl hd hn hfit (qs_fs_len hfk) hdg (fun H1 locs1 hP hD hS => ?_)
  rw [qs_wI_set hG.2.2.1 hL hk h8 hz hfk] at hP hD
  exact kk H1 locs1 ⟨hG.1, hP, hD, hS, hG.2.2.2.2⟩
theorem qs_e_wR {k b : Nat} {x : Option Nat} (h : b ≠ a) : qs_e g S b = qs_e g (qs_wR S k a x) b := by
  unfold qs_e
  rw [qs_fs_wR_ne (S := S) (k := k) (v := x) h]
  rfl
theorem qs_wR_set {k i ci : Nat} {x : Option Nat} (hD : va_D A (qs_ws g S)) (hL : a ∈ qs_L S) (hk : qs_K S a = ci) (h8 : ci < 8) (hz : (qs_ws g S)[i]? = some (a, qs_e g S a)) (hfk : (qs_fk ci)[k]? = some true) : (qs_ws g S).set i (a, .inr (ci, (qs_fs S a ci).set k (va_rf x))) = qs_ws g (qs_wR S k a x) :=
  qs_set g hD hL hz rfl (by rw [qs_eo g (S := qs_wR S k a x) hk h8, qs_fs_wR hfk]) (fun b hb => qs_e_wR hb)
theorem qr_putR (hx : p.tables.exec = Jvm.exec) (hb : c.code = cc) {own ref C : String} {T : u_T} {N ci index : Nat} {Ts : List Cond} (hts : ∀ w ∈ Ts, w.before args s = true) (hin : ∀ w ∈ u_ws C T N, w ∈ Ts) (ty0 : Nat → FieldType) (hty : ∀ k, k < N → parseFieldDescriptor (T k).2.2.1 = some (ty0 k)) (hnm : ∀ a, a < N → ∀ b, b < N → a ≠ b → (T a).2.1 ≠ (T b).2.1) (hown : s.vm.findClass own = some m.cls) (hG : qs_Gd g A s S H locs) (hL : a ∈ qs_L S) (hk : qs_K S a = ci) (h8 : ci < 8) (hc : vwCl[ci]? = some (C, T, N)) (k : Nat) (hkN : k < N) (hfk : (qs_fk ci)[k]? = some true) (hlink : (Cond.fieldLink own index ref (T k).2.1 (T k).2.2.1).before args s = true) (hsame : ∀ x, s.fieldFound? (T k).1 (T k).2.1 (T k).2.2.1 = some x → s.fieldFound? ref (T k).2.1 (T k).2.2.1 = some x) (hfin : (T k).2.2.2 = false) {ty : FieldType} {x : Option Nat} {v : Value} (hv : va_rf x = v) (hd : parseFieldDescriptor (T k).2.2.1 = some ty) (hn : narrow ty (v) = v) (hfit : fits ty (v) = true) (hdg : decode cc pc = .ok (.putfield index, 3))
    (kk : ∀ (H1 : Heap) (locs1 : List Loc), qs_Gd g A s (qs_wR S k a x) H1 locs1 → W p l e R s m args below meth c H1 locs1 cells slots Q (F0 m (pc + 3) ls rest)) : W p l e R s m args below meth c H locs cells slots Q (F0 m pc ls (v :: .ref a :: rest)) := by
  subst hv
  obtain ⟨i, hz⟩ := qs_at g hL
  have hz' := hz
  rw [qs_eo g hk h8] at hz'
  refine va_put hx hb hts hin ty0 hty hnm hown hG.1 hG.2.1 hG.2.2.1 hG.2.2.2.1 i hz' hc k hkN hlink hsame hfin hd hn hfit (qs_fs_len hfk) hdg (fun H1 locs1 hP hD hS => ?_)
  rw [qs_wR_set hG.2.2.1 hL hk h8 hz hfk] at hP hD
  exact kk H1 locs1 ⟨hG.1, hP, hD, hS, hG.2.2.2.2⟩
theorem qr_putRF (hx : p.tables.exec = Jvm.exec) (hb : c.code = cc) {own ref C : String} {T : u_T} {N ci index : Nat} {Ts : List Cond} (hts : ∀ w ∈ Ts, w.before args s = true) (hin : ∀ w ∈ u_ws C T N, w ∈ Ts) (ty0 : Nat → FieldType) (hty : ∀ k, k < N → parseFieldDescriptor (T k).2.2.1 = some (ty0 k)) (hnm : ∀ a, a < N → ∀ b, b < N → a ≠ b → (T a).2.1 ≠ (T b).2.1) (hown : s.vm.findClass own = some m.cls) (hG : qs_Gd g A s S H locs) (hL : a ∈ qs_L S) (hk : qs_K S a = ci) (h8 : ci < 8) (hc : vwCl[ci]? = some (C, T, N)) (k : Nat) (hkN : k < N) (hfk : (qs_fk ci)[k]? = some true) (hlink : (Cond.fieldLink own index ref (T k).2.1 (T k).2.2.1).before args s = true) (hsame : ∀ x, s.fieldFound? (T k).1 (T k).2.1 (T k).2.2.1 = some x → s.fieldFound? ref (T k).2.1 (T k).2.2.1 = some x) (hfin : (T k).2.2.2 = true) (hin2 : meth.name = "<init>") (hdecl : (T k).1 = own) {ty : FieldType} {x : Option Nat} {v : Value} (hv : va_rf x = v) (hd : parseFieldDescriptor (T k).2.2.1 = some ty) (hn : narrow ty (v) = v) (hfit : fits ty (v) = true) (hdg : decode cc pc = .ok (.putfield index, 3))
    (kk : ∀ (H1 : Heap) (locs1 : List Loc), qs_Gd g A s (qs_wR S k a x) H1 locs1 → W p l e R s m args below meth c H1 locs1 cells slots Q (F0 m (pc + 3) ls rest)) : W p l e R s m args below meth c H locs cells slots Q (F0 m pc ls (v :: .ref a :: rest)) := by
  subst hv
  obtain ⟨i, hz⟩ := qs_at g hL
  have hz' := hz
  rw [qs_eo g hk h8] at hz'
  refine va_putF hx hb hts hin ty0 hty hnm hown hG.1 hG.2.1 hG.2.2.1 hG.2.2.2.1 i hz' hc k hkN hlink hsame hfin hin2 hdecl hd hn hfit (qs_fs_len hfk) hdg (fun H1 locs1 hP hD hS => ?_)
  rw [qs_wR_set hG.2.2.1 hL hk h8 hz hfk] at hP hD
  exact kk H1 locs1 ⟨hG.1, hP, hD, hS, hG.2.2.2.2⟩
theorem qr_iald (hx : p.tables.exec = Jvm.exec) (hb : c.code = cc) (hG : qs_Gd g A s S H locs) (hL : a ∈ qs_L S) (hk : qs_K S a = 8) {i : Int32} (hi : vp_in i (qs_Z S a)) {v : Value} (hv : .int (qs_A S a i.toNatClampNeg) = v) (hdg : decode cc pc = .ok (.iaload, 1))
    (kk : W p l e R s m args below meth c H locs cells slots Q (F0 m (pc + 1) ls (v :: rest))) : W p l e R s m args below meth c H locs cells slots Q (F0 m pc ls (.int i :: .ref a :: rest)) := by
  subst hv
  obtain ⟨i0, hz⟩ := qs_at g hL
  rw [qs_e8 g hk] at hz
  exact va_iald hx hb hG.1 hG.2.1 i0 0 hz rfl hi hdg kk
theorem qr_zald (hx : p.tables.exec = Jvm.exec) (hb : c.code = cc) (hG : qs_Gd g A s S H locs) (hL : a ∈ qs_L S) (hk : qs_K S a = 9) {i : Int32} (hi : vp_in i (qs_Z S a)) {v : Value} (hv : .int (qs_A S a i.toNatClampNeg) = v) (hdg : decode cc pc = .ok (.baload, 1))
    (kk : W p l e R s m args below meth c H locs cells slots Q (F0 m (pc + 1) ls (v :: rest))) : W p l e R s m args below meth c H locs cells slots Q (F0 m pc ls (.int i :: .ref a :: rest)) := by
  subst hv
  obtain ⟨i0, hz⟩ := qs_at g hL
  rw [qs_e9 g hk] at hz
  exact va_zald hx hb hG.1 hG.2.1 i0 1 hz rfl hi hdg kk
theorem qr_aald (hx : p.tables.exec = Jvm.exec) (hb : c.code = cc) (hG : qs_Gd g A s S H locs) (hL : a ∈ qs_L S) (hk : qs_K S a = 10) {i : Int32} (hi : vp_in i (qs_Z S a)) {v : Value} (hv : va_rf (qs_O S a i.toNatClampNeg) = v) (hdg : decode cc pc = .ok (.aaload, 1))
    (kk : W p l e R s m args below meth c H locs cells slots Q (F0 m (pc + 1) ls (v :: rest))) : W p l e R s m args below meth c H locs cells slots Q (F0 m pc ls (.int i :: .ref a :: rest)) := by
  subst hv
  obtain ⟨i0, hz⟩ := qs_at g hL
  rw [qs_e10 g hk] at hz
  exact va_aldq hx hb hG.1 hG.2.1 i0 2 hz rfl hi hdg kk
theorem qs_e_wA {i b : Nat} {x : Int32} (h : b ≠ a) : qs_e g S b = qs_e g (qs_wA S a i x) b := by
  have e1 : qs_A (qs_wA S a i x) b = qs_A S b := by
    funext j
    exact if_neg (fun z => h z.1)
  unfold qs_e
  rw [e1]
  rfl
theorem qs_e_wO {i b : Nat} {x : Option Nat} (h : b ≠ a) : qs_e g S b = qs_e g (qs_wO S a i x) b := by
  have e1 : qs_O (qs_wO S a i x) b = qs_O S b := by
    funext j
    exact if_neg (fun z => h z.1)
  unfold qs_e
  rw [e1]
  rfl
theorem qs_A_wA {i : Nat} {x : Int32} : qs_A (qs_wA S a i x) a = upd (qs_A S a) i x := by
  funext j
  show (if a = a ∧ j = i then x else qs_A S a j) = if j = i then x else qs_A S a j
  by_cases hj : j = i
  · rw [if_pos ⟨rfl, hj⟩, if_pos hj]
  · rw [if_neg (fun z => hj z.2), if_neg hj]
theorem qs_O_wO {i : Nat} {x : Option Nat} : qs_O (qs_wO S a i x) a = va_up (qs_O S a) i x := by
  funext j
  show (if a = a ∧ j = i then x else qs_O S a j) = if j = i then x else qs_O S a j
  by_cases hj : j = i
  · rw [if_pos ⟨rfl, hj⟩, if_pos hj]
  · rw [if_neg (fun z => hj z.2), if_neg hj]
theorem qs_nar01 {x : Int32} (h : x = 0 ∨ x = 1) : narrow .boolean (.int x) = .int x := by
  rcases h with rfl | rfl <;> decide +kernel
theorem qs_fit01 {x : Int32} (h : x = 0 ∨ x = 1) : fits .boolean (.int x) = true := by
  rcases h with rfl | rfl <;> decide +kernel
theorem qs_vnar01 {x : Int32} (h : x = 0 ∨ x = 1) : vp_nar .boolean x = x := by
  rcases h with rfl | rfl <;> decide +kernel
theorem qr_iast (hx : p.tables.exec = Jvm.exec) (hb : c.code = cc) (hG : qs_Gd g A s S H locs) (hL : a ∈ qs_L S) (hk : qs_K S a = 8) {i x : Int32} (hi : vp_in i (qs_Z S a)) (hdg : decode cc pc = .ok (.iastore, 1))
    (kk : ∀ (H1 : Heap) (locs1 : List Loc), qs_Gd g A s (qs_wA S a i.toNatClampNeg x) H1 locs1 → W p l e R s m args below meth c H1 locs1 cells slots Q (F0 m (pc + 1) ls rest)) : W p l e R s m args below meth c H locs cells slots Q (F0 m pc ls (.int x :: .int i :: .ref a :: rest)) := by
  obtain ⟨i0, hz⟩ := qs_at g hL
  have hz' := hz
  rw [qs_e8 g hk] at hz'
  refine va_iast hx hb hG.1 hG.2.1 hG.2.2.1 hG.2.2.2.1 i0 0 hz' rfl hi hdg (fun H1 locs1 hP hD hS => ?_)
  skip
  rw [qs_set g (S' := qs_wA S a i.toNatClampNeg x) hG.2.2.1 hL hz rfl (by rw [qs_e8 g (S := qs_wA S a i.toNatClampNeg x) hk, qs_A_wA]; rfl) (fun b hb => qs_e_wA hb)] at hP hD
  exact kk H1 locs1 ⟨hG.1, hP, hD, hS, hG.2.2.2.2⟩
theorem qr_zast (hx : p.tables.exec = Jvm.exec) (hb : c.code = cc) (hG : qs_Gd g A s S H locs) (hL : a ∈ qs_L S) (hk : qs_K S a = 9) {i x : Int32} (hi : vp_in i (qs_Z S a)) (h01 : x = 0 ∨ x = 1) (hdg : decode cc pc = .ok (.bastore, 1))
    (kk : ∀ (H1 : Heap) (locs1 : List Loc), qs_Gd g A s (qs_wA S a i.toNatClampNeg x) H1 locs1 → W p l e R s m args below meth c H1 locs1 cells slots Q (F0 m (pc + 1) ls rest)) : W p l e R s m args below meth c H locs cells slots Q (F0 m pc ls (.int x :: .int i :: .ref a :: rest)) := by
  obtain ⟨i0, hz⟩ := qs_at g hL
  have hz' := hz
  rw [qs_e9 g hk] at hz'
  refine va_zast hx hb hG.1 hG.2.1 hG.2.2.1 hG.2.2.2.1 i0 1 hz' rfl hi hdg (fun H1 locs1 hP hD hS => ?_)
  rw [qs_vnar01 h01] at hP hD
  rw [qs_set g (S' := qs_wA S a i.toNatClampNeg x) hG.2.2.1 hL hz rfl (by rw [qs_e9 g (S := qs_wA S a i.toNatClampNeg x) hk, qs_A_wA]; rfl) (fun b hb => qs_e_wA hb)] at hP hD
  exact kk H1 locs1 ⟨hG.1, hP, hD, hS, hG.2.2.2.2⟩
theorem qr_aast (hx : p.tables.exec = Jvm.exec) (hb : c.code = cc) (hG : qs_Gd g A s S H locs) (hL : a ∈ qs_L S) (hk : qs_K S a = 10) {i : Int32} {v : Nat} (hi : vp_in i (qs_Z S a)) (hvL : v ∈ qs_L S) (hv8 : qs_K S v < 8) (hdg : decode cc pc = .ok (.aastore, 1))
    (kk : ∀ (H1 : Heap) (locs1 : List Loc), qs_Gd g A s (qs_wO S a i.toNatClampNeg (some v)) H1 locs1 → W p l e R s m args below meth c H1 locs1 cells slots Q (F0 m (pc + 1) ls rest)) : W p l e R s m args below meth c H locs cells slots Q (F0 m pc ls (.ref v :: .int i :: .ref a :: rest)) := by
  obtain ⟨i0, hz⟩ := qs_at g hL
  have hz' := hz
  rw [qs_e10 g hk] at hz'
  refine va_astqM hx hb hG.1 hG.2.1 hG.2.2.1 hG.2.2.2.1 i0 2 hz' rfl (hG.any hvL hv8) hi hdg (fun H1 locs1 hP hD hS => ?_)
  rw [qs_set g (S' := qs_wO S a i.toNatClampNeg (some v)) hG.2.2.1 hL hz rfl (by rw [qs_e10 g (S := qs_wO S a i.toNatClampNeg (some v)) hk, qs_O_wO]; rfl) (fun b hb => qs_e_wO hb)] at hP hD
  exact kk H1 locs1 ⟨hG.1, hP, hD, hS, hG.2.2.2.2⟩
theorem qr_aastN (hx : p.tables.exec = Jvm.exec) (hb : c.code = cc) (hG : qs_Gd g A s S H locs) (hL : a ∈ qs_L S) (hk : qs_K S a = 10) {i : Int32} (hi : vp_in i (qs_Z S a)) (hdg : decode cc pc = .ok (.aastore, 1))
    (kk : ∀ (H1 : Heap) (locs1 : List Loc), qs_Gd g A s (qs_wO S a i.toNatClampNeg none) H1 locs1 → W p l e R s m args below meth c H1 locs1 cells slots Q (F0 m (pc + 1) ls rest)) : W p l e R s m args below meth c H locs cells slots Q (F0 m pc ls (.null :: .int i :: .ref a :: rest)) := by
  obtain ⟨i0, hz⟩ := qs_at g hL
  have hz' := hz
  rw [qs_e10 g hk] at hz'
  refine va_astqN hx hb hG.1 hG.2.1 hG.2.2.1 hG.2.2.2.1 i0 2 hz' rfl hi hdg (fun H1 locs1 hP hD hS => ?_)
  rw [qs_set g (S' := qs_wO S a i.toNatClampNeg none) hG.2.2.1 hL hz rfl (by rw [qs_e10 g (S := qs_wO S a i.toNatClampNeg none) hk, qs_O_wO]; rfl) (fun b hb => qs_e_wO hb)] at hP hD
  exact kk H1 locs1 ⟨hG.1, hP, hD, hS, hG.2.2.2.2⟩
/-- the length of an element array, ArrayList's empty one included -/
def qs_len (t0 : Nat) (S : qs_S) (a : Nat) : Nat := if a = t0 then 0 else qs_Z S a
theorem qr_alen (hx : p.tables.exec = Jvm.exec) (hb : c.code = cc) (hG : qs_Gd g A s S H locs) (hL : a = g.2.2.2.2.2.2.1 ∨ (a ∈ qs_L S ∧ qs_K S a = 10)) (hdg : decode cc pc = .ok (.arraylength, 1))
    (kk : W p l e R s m args below meth c H locs cells slots Q (F0 m (pc + 1) ls (.int (nI (qs_len g.2.2.2.2.2.2.1 S a)) :: rest))) : W p l e R s m args below meth c H locs cells slots Q (F0 m pc ls (.ref a :: rest)) := by
  by_cases h0 : a = g.2.2.2.2.2.2.1
  · rw [qs_len, if_pos h0] at kk
    rw [h0]
    exact va_tlen hx hb hG.2.2.2.2.2.2.1 hG.2.2.2.1 rfl hdg kk
  · rw [qs_len, if_neg h0] at kk
    obtain ⟨hL, hk⟩ := hL.resolve_left h0
    obtain ⟨i0, hz⟩ := qs_at g hL
    rw [qs_e10 g hk] at hz
    exact va_alen hx hb hG.1 hG.2.1 i0 2 hz rfl rfl hdg kk
theorem qr_empty (hx : p.tables.exec = Jvm.exec) (hb : c.code = cc) {own ref : String} {index : Nat} (hG : qs_Gd g A s S H locs) (hown : s.vm.findClass own = some m.cls) (hlink : (Cond.fieldLink own index ref "DEFAULTCAPACITY_EMPTY_ELEMENTDATA" "[Ljava/lang/Object;").before args s = true) (hsame : ∀ x, s.fieldFound? "java/util/ArrayList" "DEFAULTCAPACITY_EMPTY_ELEMENTDATA" "[Ljava/lang/Object;" = some x → s.fieldFound? ref "DEFAULTCAPACITY_EMPTY_ELEMENTDATA" "[Ljava/lang/Object;" = some x) (hdg : decode cc pc = .ok (.getstatic index, 3))
    (kk : W p l e R s m args below meth c H locs cells slots Q (F0 m (pc + 3) ls (.ref g.2.2.2.2.2.2.1 :: rest))) : W p l e R s m args below meth c H locs cells slots Q (F0 m pc ls rest) :=
  va_gets hx hb hG.2.2.2.2.2.1 hG.2.2.2.1 hown hlink hsame hdg kk
theorem qs_t0L {A : Nat → Prop} {U : State} {Hh : Heap} {t0 m9 q : Nat} (h : qs_E t0 m9 A U Hh) (hq : A q) : q ≠ t0 := fun z => h.2.1.out (z ▸ hq)
theorem qr_cast (hx : p.tables.exec = Jvm.exec) (hb : c.code = cc) {own nm : String} {T : u_T} {N ci index : Nat} (hG : qs_Gd g A s S H locs) (hL : a ∈ qs_L S) (hk : qs_K S a = ci) (h8 : ci < 8) (hc : vwCl[ci]? = some (nm, T, N)) (hown : s.vm.findClass own = some m.cls) (hlink : (Cond.classLink own index nm).before args s = true) (hdg : decode cc pc = .ok (.checkcast index, 3))
    (kk : W p l e R s m args below meth c H locs cells slots Q (F0 m (pc + 3) ls (.ref a :: rest))) : W p l e R s m args below meth c H locs cells slots Q (F0 m pc ls (.ref a :: rest)) :=
  va_castS hx hb hown hlink (hG.1.1 ci _ hc).2 (hG.recv hL hk h8 hc) hdg kk
theorem qs_push_nw {q ci : Nat} (hq : q ∉ qs_L S) (h8 : ci < 8) : qs_ws g S ++ [(q, .inr (ci, qs_fs (qs_nw S q ci) q ci))] = qs_ws g (qs_nw S q ci) := by
  unfold qs_ws
  rw [List.append_assoc, va_pl_push hq]
  refine congrArg (fun l => g.2.2.2.2.2.1 ++ l) (va_pl_congr (fun b => ?_))
  by_cases hb : b = q
  · subst hb
    rw [va_up_self, qs_eo g (S := qs_nw S b ci) (if_pos rfl) h8]
  · rw [va_up_ne _ _ hb]
    have e1 : qs_K (qs_nw S q ci) b = qs_K S b := if_neg hb
    have e2 : qs_fs (qs_nw S q ci) b (qs_K S b) = qs_fs S b (qs_K S b) := by
      unfold qs_fs
      congr 1
      funext k' x
      cases x
      · show Value.int (if b = q then 0 else qs_I S k' b) = Value.int (qs_I S k' b)
        rw [if_neg hb]
      · show va_rf (if b = q then none else qs_R S k' b) = va_rf (qs_R S k' b)
        rw [if_neg hb]
    unfold qs_e
    rw [e1, e2]
    rfl
theorem qr_new (hx : p.tables.exec = Jvm.exec) (hb : c.code = cc) {own C : String} {T : u_T} {N ci index : Nat} {Ts : List Cond} (hts : ∀ w ∈ Ts, w.before args s = true) (hin : ∀ w ∈ u_ws C T N, w ∈ Ts) (ty : Nat → FieldType) (hty : ∀ k, k < N → parseFieldDescriptor (T k).2.2.1 = some (ty k)) (hown : s.vm.findClass own = some m.cls) (hcl : (Cond.classLink own index C).before args s = true) (hinst : (Cond.instantiable C N).before args s = true) (hini : (Cond.initialized C).before args s = true)
    (hG : qs_Gd g A s S H locs) (h8 : ci < 8) (hc : vwCl[ci]? = some (C, T, N)) (hfs : ∀ (S : qs_S) (q : Nat) (j : Nat), j < N → defaultValue (ty j) = vp_V (qs_fs (qs_nw S q ci) q ci) j) (hcells : cells + 1 ≤ R.cells) (hslots : slots + N ≤ R.slots) (hdg : decode cc pc = .ok (.new index, 3))
    (kk : ∀ (q : Nat) (H1 : Heap), q ∉ qs_L S → q ≠ g.2.2.2.2.2.2.1 → qs_Gd g A s (qs_nw S q ci) H1 locs → W p l e R s m args below meth c H1 locs (cells + 1) (slots + N) Q (F0 m (pc + 3) ls (.ref q :: rest))) : W p l e R s m args below meth c H locs cells slots Q (F0 m pc ls rest) := by
  have hfs0 : ∀ q q', qs_fs (qs_nw S q ci) q ci = qs_fs (qs_nw S q' ci) q' ci := by
    intro q q'
    unfold qs_fs
    congr 1
    funext k' x
    cases x
    · show Value.int (if q = q then 0 else qs_I S k' q) = Value.int (if q' = q' then 0 else qs_I S k' q')
      rw [if_pos rfl, if_pos rfl]
    · show va_rf (if q = q then none else qs_R S k' q) = va_rf (if q' = q' then none else qs_R S k' q')
      rw [if_pos rfl, if_pos rfl]
  refine va_new hx hb hts hin ty hty hown hcl hinst hini hG.1 hG.2.1 hG.2.2.1 hG.2.2.2.1 hG.2.2.2.2.1 hc (fs := qs_fs (qs_nw S 0 ci) 0 ci) (fun j hj => hfs S 0 j hj) hcells hslots hdg (fun q H1 hP hD hS => ?_)
  have hq : q ∉ qs_L S := va_pl_fresh2 hD
  rw [hfs0 0 q, qs_push_nw hq h8] at hP hD
  obtain ⟨i0, hz⟩ := qs_at g (S := qs_nw S q ci) (a := q) (List.mem_append_right _ List.mem_cons_self)
  exact kk q H1 hq (qs_t0L hG.2.2.2.2.2 (hD.2 i0 _ hz)) ⟨hG.1, hP, hD, hS, hG.2.2.2.2⟩
theorem qs_push_nA {q ci n : Nat} (hq : q ∉ qs_L S) {en : va_E} (he : qs_e g (qs_nA S q ci n) q = en) : qs_ws g S ++ [(q, en)] = qs_ws g (qs_nA S q ci n) := by
  unfold qs_ws
  rw [List.append_assoc, va_pl_push hq]
  refine congrArg (fun l => g.2.2.2.2.2.1 ++ l) (va_pl_congr (fun b => ?_))
  by_cases hb : b = q
  · subst hb
    rw [va_up_self, he]
  · rw [va_up_ne _ _ hb]
    have e1 : qs_K (qs_nA S q ci n) b = qs_K S b := if_neg hb
    have e2 : qs_Z (qs_nA S q ci n) b = qs_Z S b := if_neg hb
    have e3 : qs_A (qs_nA S q ci n) b = qs_A S b := by
      funext j
      exact if_neg hb
    have e4 : qs_O (qs_nA S q ci n) b = qs_O S b := by
      funext j
      exact if_neg hb
    unfold qs_e
    rw [e1, e2, e3, e4]
    rfl
theorem qr_newI (hx : p.tables.exec = Jvm.exec) (hb : c.code = cc) (harr : (Cond.arrayClass .int).before args s = true) (hG : qs_Gd g A s S H locs) {n : Int32} {N : Nat} (hn : ¬ n < 0) (hN : n.toNatClampNeg = N) (hbytes : N * 4 ≤ 536870912) (hcells : cells + 1 ≤ R.cells) (hslots : slots + N ≤ R.slots) (hdg : decode cc pc = .ok (.newarray .int, 2))
    (kk : ∀ (q : Nat) (H1 : Heap), q ∉ qs_L S → q ≠ g.2.2.2.2.2.2.1 → qs_Gd g A s (qs_nA S q 8 N) H1 locs → W p l e R s m args below meth c H1 locs (cells + 1) (slots + N) Q (F0 m (pc + 2) ls (.ref q :: rest))) : W p l e R s m args below meth c H locs cells slots Q (F0 m pc ls (.int n :: rest)) := by
  refine va_newa (atype := .int) hx hb harr rfl hG.1 hG.2.1 hG.2.2.1 hG.2.2.2.1 hG.2.2.2.2.1 (a0 := (N, .inl (fun _ => 0))) (fun cA => rfl) hn hN (Nat.le_trans (Nat.mul_le_mul_left N (by decide)) hbytes) hcells hslots hdg (fun q cA H1 hK hP hD hS => ?_)
  have hq : q ∉ qs_L S := va_pl_fresh2 hD
  have h1 := (hK.2 0 (g.2.1, .int) rfl).2
  have h2 := (hK.2 4 (cA, .int) rfl).2
  have hcA : cA = g.2.1 := Option.some.inj ((show s.vm.findClass _ = some cA from h2).symm.trans (show s.vm.findClass _ = some g.2.1 from h1))
  subst hcA
  have he : qs_e g (qs_nA S q 8 N) q = .inl (g.2.1, N, .inl (fun _ => 0)) := by
    rw [qs_e8 g (S := qs_nA S q 8 N) (if_pos rfl)]
    have e1 : qs_Z (qs_nA S q 8 N) q = N := if_pos rfl
    have e2 : qs_A (qs_nA S q 8 N) q = (fun _ => 0) := by
      funext j
      exact if_pos rfl
    rw [e1, e2]
  rw [qs_push_nA hq he] at hP hD
  obtain ⟨i0, hz⟩ := qs_at g (S := qs_nA S q 8 N) (a := q) (List.mem_append_right _ List.mem_cons_self)
  exact kk q H1 hq (qs_t0L hG.2.2.2.2.2 (hD.2 i0 _ hz)) ⟨hG.1, hP, hD, hS, hG.2.2.2.2⟩
theorem qr_newZ (hx : p.tables.exec = Jvm.exec) (hb : c.code = cc) (harr : (Cond.arrayClass .boolean).before args s = true) (hG : qs_Gd g A s S H locs) {n : Int32} {N : Nat} (hn : ¬ n < 0) (hN : n.toNatClampNeg = N) (hbytes : N * 4 ≤ 536870912) (hcells : cells + 1 ≤ R.cells) (hslots : slots + N ≤ R.slots) (hdg : decode cc pc = .ok (.newarray .boolean, 2))
    (kk : ∀ (q : Nat) (H1 : Heap), q ∉ qs_L S → q ≠ g.2.2.2.2.2.2.1 → qs_Gd g A s (qs_nA S q 9 N) H1 locs → W p l e R s m args below meth c H1 locs (cells + 1) (slots + N) Q (F0 m (pc + 2) ls (.ref q :: rest))) : W p l e R s m args below meth c H locs cells slots Q (F0 m pc ls (.int n :: rest)) := by
  refine va_newa (atype := .boolean) hx hb harr rfl hG.1 hG.2.1 hG.2.2.1 hG.2.2.2.1 hG.2.2.2.2.1 (a0 := (N, .inl (fun _ => 0))) (fun cA => rfl) hn hN (Nat.le_trans (Nat.mul_le_mul_left N (by decide)) hbytes) hcells hslots hdg (fun q cA H1 hK hP hD hS => ?_)
  have hq : q ∉ qs_L S := va_pl_fresh2 hD
  have h1 := (hK.2 1 (g.2.2.1, .boolean) rfl).2
  have h2 := (hK.2 4 (cA, .boolean) rfl).2
  have hcA : cA = g.2.2.1 := Option.some.inj ((show s.vm.findClass _ = some cA from h2).symm.trans (show s.vm.findClass _ = some g.2.2.1 from h1))
  subst hcA
  have he : qs_e g (qs_nA S q 9 N) q = .inl (g.2.2.1, N, .inl (fun _ => 0)) := by
    rw [qs_e9 g (S := qs_nA S q 9 N) (if_pos rfl)]
    have e1 : qs_Z (qs_nA S q 9 N) q = N := if_pos rfl
    have e2 : qs_A (qs_nA S q 9 N) q = (fun _ => 0) := by
      funext j
      exact if_pos rfl
    rw [e1, e2]
  rw [qs_push_nA hq he] at hP hD
  obtain ⟨i0, hz⟩ := qs_at g (S := qs_nA S q 9 N) (a := q) (List.mem_append_right _ List.mem_cons_self)
  exact kk q H1 hq (qs_t0L hG.2.2.2.2.2 (hD.2 i0 _ hz)) ⟨hG.1, hP, hD, hS, hG.2.2.2.2⟩
theorem qr_newO (hx : p.tables.exec = Jvm.exec) (hb : c.code = cc) {own : String} {index : Nat} (hown : s.vm.findClass own = some m.cls) (hclink : (Cond.classLink own index "java/lang/Object").before args s = true) (hover : va_AO "java/lang/Object" s) (hG : qs_Gd g A s S H locs) {n : Int32} {N : Nat} (hn : ¬ n < 0) (hN : n.toNatClampNeg = N) (hbytes : N * 4 ≤ 536870912) (hcells : cells + 1 ≤ R.cells) (hslots : slots + N ≤ R.slots) (hdg : decode cc pc = .ok (.anewarray index, 3))
    (kk : ∀ (q : Nat) (H1 : Heap), q ∉ qs_L S → q ≠ g.2.2.2.2.2.2.1 → qs_Gd g A s (qs_nA S q 10 N) H1 locs → W p l e R s m args below meth c H1 locs (cells + 1) (slots + N) Q (F0 m (pc + 3) ls (.ref q :: rest))) : W p l e R s m args below meth c H locs cells slots Q (F0 m pc ls (.int n :: rest)) := by
  refine va_newq hx hb hown hclink hover hG.1 hG.2.1 hG.2.2.1 hG.2.2.2.1 hG.2.2.2.2.1 hn hN hbytes hcells hslots hdg (fun q cA H1 hK hP hD hS => ?_)
  have hq : q ∉ qs_L S := va_pl_fresh2 hD
  obtain ⟨-, -, -, -, -, h1⟩ := (hK.2 2 (g.2.2.2.1, .object "java/lang/Object") rfl).2
  obtain ⟨-, -, -, -, -, h2⟩ := (hK.2 4 (cA, .object "java/lang/Object") rfl).2
  have hcA : cA = g.2.2.2.1 := Option.some.inj (h2.symm.trans h1)
  subst hcA
  have he : qs_e g (qs_nA S q 10 N) q = .inl (g.2.2.2.1, N, .inr (.inr (.inr (.inr (fun _ => none))))) := by
    rw [qs_e10 g (S := qs_nA S q 10 N) (if_pos rfl)]
    have e1 : qs_Z (qs_nA S q 10 N) q = N := if_pos rfl
    have e2 : qs_O (qs_nA S q 10 N) q = (fun _ => none) := by
      funext j
      exact if_pos rfl
    rw [e1, e2]
  rw [qs_push_nA hq he] at hP hD
  obtain ⟨i0, hz⟩ := qs_at g (S := qs_nA S q 10 N) (a := q) (List.mem_append_right _ List.mem_cons_self)
  exact kk q H1 hq (qs_t0L hG.2.2.2.2.2 (hD.2 i0 _ hz)) ⟨hG.1, hP, hD, hS, hG.2.2.2.2⟩
theorem qr_copy (hx : p.tables.exec = Jvm.exec) (hb : c.code = cc) (hml : c.maxLocals = ls.size) {own : String} {index a0 : Nat} (hown : s.vm.findClass own = some m.cls) (hlink : (Cond.methodLink own index arraycopyName).before args s = true) (hnat : (Cond.native arraycopyName).before args s = true) (hstat : (Cond.static arraycopyName).before args s = true) (hini : (Cond.initialized "java/lang/System").before args s = true)
    (hG : qs_Gd g A s S H locs) (hL0 : a0 ∈ qs_L S) (hk0 : qs_K S a0 = 10) (hL : a ∈ qs_L S) (hk : qs_K S a = 10) {sp dp n : Int32} (h1 : ¬ sp < 0) (h2 : ¬ dp < 0) (h3 : ¬ n < 0) (h4 : sp.toNatClampNeg + n.toNatClampNeg ≤ qs_Z S a0) (h5 : dp.toNatClampNeg + n.toNatClampNeg ≤ qs_Z S a) (hel : ∀ i : Nat, i < n.toNatClampNeg → ∀ y : Nat, qs_O S a0 (sp.toNatClampNeg + i) = some y → y ∈ qs_L S ∧ qs_K S y < 8)
    (hframes : 1 ≤ R.frames) (hlocals : (rest.map fun v => v.category).sum + (nativeFrameWords "java/lang/System" "arraycopy" 5 + 11) ≤ R.locals) (hdg : decode cc pc = .ok (.invokestatic index, 3))
    (kk : ∀ (H1 : Heap) (locs1 : List Loc), qs_Gd g A s (qs_cO S a0 a sp.toNatClampNeg dp.toNatClampNeg n.toNatClampNeg) H1 locs1 → W p l e R s m args below meth c H1 locs1 cells slots Q (F0 m (pc + 3) ls rest)) : W p l e R s m args below meth c H locs cells slots Q (F0 m pc ls (.int n :: .int dp :: .ref a :: .int sp :: .ref a0 :: rest)) := by
  obtain ⟨i1, hz⟩ := qs_at g hL
  have hz' := hz
  rw [qs_e10 g hk] at hz'
  obtain ⟨i0, hy⟩ := qs_at g hL0
  rw [qs_e10 g hk0] at hy
  refine va_copyM hx hb hml hown hlink hnat hstat hini hG.1 hG.2.1 hG.2.2.1 hG.2.2.2.1 i0 i1 2 2 hy hz' rfl rfl h1 h2 h3 h4 h5 (fun i hi y hv => hG.any (hel i hi y hv).1 (hel i hi y hv).2) hframes hlocals hdg (fun H1 locs1 hP hD hS => ?_)
  have e0 : ∀ b, b ≠ a → qs_O (qs_cO S a0 a sp.toNatClampNeg dp.toNatClampNeg n.toNatClampNeg) b = qs_O S b := fun b hb => if_neg hb
  have e1 : qs_O (qs_cO S a0 a sp.toNatClampNeg dp.toNatClampNeg n.toNatClampNeg) a = va_cpy (qs_O S a0) (qs_O S a) sp.toNatClampNeg dp.toNatClampNeg n.toNatClampNeg := if_pos rfl
  rw [qs_set g (S' := qs_cO S a0 a sp.toNatClampNeg dp.toNatClampNeg n.toNatClampNeg) hG.2.2.1 hL hz rfl (by rw [qs_e10 g (S := qs_cO S a0 a sp.toNatClampNeg dp.toNatClampNeg n.toNatClampNeg) hk, e1]; rfl) (fun b hb => by unfold qs_e; rw [e0 b hb]; rfl)] at hP hD
  exact kk H1 locs1 ⟨hG.1, hP, hD, hS, hG.2.2.2.2⟩
end QSR

/-! the pool of all cells: addresses, kinds, ints of objects, references of objects, lengths, rows of ints, rows of references -/
abbrev qs_S : Type := List Nat × (Nat → Nat) × (Nat → Nat → Int32) × (Nat → Nat → Option Nat) × (Nat → Nat) × (Nat → Nat → Int32) × (Nat → Nat → Option Nat)
def qs_L (S : qs_S) : List Nat := S.1
def qs_K (S : qs_S) : Nat → Nat := S.2.1
def qs_I (S : qs_S) : Nat → Nat → Int32 := S.2.2.1
def qs_R (S : qs_S) : Nat → Nat → Option Nat := S.2.2.2.1
def qs_Z (S : qs_S) : Nat → Nat := S.2.2.2.2.1
def qs_A (S : qs_S) : Nat → Nat → Int32 := S.2.2.2.2.2.1
def qs_O (S : qs_S) : Nat → Nat → Option Nat := S.2.2.2.2.2.2
/-- which fields of a class are references -/
def qs_fk : Nat → List Bool := fun k => match k with
  | 0 => [false, true, false]
  | 1 => [true, false, false, false, false, false, false, false]
  | 2 => [false, true, true, false, false, false, true, false]
  | 3 => [false, false, true, false, false, false, false]
  | 4 => [false, false, false]
  | 5 => [false, true, true, false, false, false, true, true]
  | 6 => [true, true, true, true, true, true, false, false]
  | _ => [false, false, false, true, true, true, false, true, true, true, true, true, true, true, true, true, true, true, false, true, true, true, true, true, true, false, true, false, true, true, true, true, true, true, true]
def qs_fv (S : qs_S) (a k : Nat) (b : Bool) : Value := if b = true then va_rf (qs_R S k a) else .int (qs_I S k a)
def qs_fs (S : qs_S) (a ci : Nat) : List Value := (qs_fk ci).mapIdx (fun k b => qs_fv S a k b)
/-- the tables' numbers, the cells apart from the pool, the empty array of ArrayList -/
abbrev qs_G : Type := va_G × ClassId × ClassId × ClassId × ClassId × va_W × Nat × Nat
def qs_e (g : qs_G) (S : qs_S) (a : Nat) : va_E :=
  if qs_K S a < 8 then .inr (qs_K S a, qs_fs S a (qs_K S a))
  else if qs_K S a = 8 then .inl (g.2.1, qs_Z S a, .inl (qs_A S a))
  else if qs_K S a = 9 then .inl (g.2.2.1, qs_Z S a, .inl (qs_A S a))
  else .inl (g.2.2.2.1, qs_Z S a, .inr (.inr (.inr (.inr (qs_O S a)))))
def qs_ws (g : qs_G) (S : qs_S) : va_W := g.2.2.2.2.2.1 ++ va_pl (qs_L S) (qs_e g S)
abbrev qs_ty (g : qs_G) : List (ClassId × FieldType) := [(g.2.1, .int), (g.2.2.1, .boolean), (g.2.2.2.1, .object "java/lang/Object"), (g.2.2.2.2.1, .long)]
def qs_wI (S : qs_S) (k a : Nat) (v : Int32) : qs_S := (qs_L S, qs_K S, fun k' a' => if k' = k ∧ a' = a then v else qs_I S k' a', qs_R S, qs_Z S, qs_A S, qs_O S)
def qs_wR (S : qs_S) (k a : Nat) (v : Option Nat) : qs_S := (qs_L S, qs_K S, qs_I S, fun k' a' => if k' = k ∧ a' = a then v else qs_R S k' a', qs_Z S, qs_A S, qs_O S)
def qs_wA (S : qs_S) (a i : Nat) (v : Int32) : qs_S := (qs_L S, qs_K S, qs_I S, qs_R S, qs_Z S, fun a' i' => if a' = a ∧ i' = i then v else qs_A S a' i', qs_O S)
def qs_wO (S : qs_S) (a i : Nat) (v : Option Nat) : qs_S := (qs_L S, qs_K S, qs_I S, qs_R S, qs_Z S, qs_A S, fun a' i' => if a' = a ∧ i' = i then v else qs_O S a' i')
def qs_cO (S : qs_S) (b a sp dp n : Nat) : qs_S := (qs_L S, qs_K S, qs_I S, qs_R S, qs_Z S, qs_A S, fun a' => if a' = a then va_cpy (qs_O S b) (qs_O S a) sp dp n else qs_O S a')
def qs_nw (S : qs_S) (q ci : Nat) : qs_S := (qs_L S ++ [q], fun a => if a = q then ci else qs_K S a, fun k a => if a = q then 0 else qs_I S k a, fun k a => if a = q then none else qs_R S k a, qs_Z S, qs_A S, qs_O S)
def qs_nA (S : qs_S) (q ci n : Nat) : qs_S := (qs_L S ++ [q], fun a => if a = q then ci else qs_K S a, qs_I S, qs_R S, fun a => if a = q then n else qs_Z S a, fun a i => if a = q then 0 else qs_A S a i, fun a i => if a = q then none else qs_O S a i)
theorem qs_eo (g : qs_G) {S : qs_S} {a ci : Nat} (h : qs_K S a = ci) (h8 : ci < 8) : qs_e g S a = .inr (ci, qs_fs S a ci) := by
  subst h
  exact if_pos h8
theorem qs_e8 (g : qs_G) {S : qs_S} {a : Nat} (h : qs_K S a = 8) : qs_e g S a = .inl (g.2.1, qs_Z S a, .inl (qs_A S a)) := by simp [qs_e, h]
theorem qs_e9 (g : qs_G) {S : qs_S} {a : Nat} (h : qs_K S a = 9) : qs_e g S a = .inl (g.2.2.1, qs_Z S a, .inl (qs_A S a)) := by simp [qs_e, h]
theorem qs_e10 (g : qs_G) {S : qs_S} {a : Nat} (h : qs_K S a = 10) : qs_e g S a = .inl (g.2.2.2.1, qs_Z S a, .inr (.inr (.inr (.inr (qs_O S a))))) := by simp [qs_e, h]
theorem qs_at (g : qs_G) {S : qs_S} {a : Nat} (h : a ∈ qs_L S) : ∃ k : Nat, (qs_ws g S)[k]? = some (a, qs_e g S a) := va_pl_get h
theorem qs_fs_at {S : qs_S} {a ci k : Nat} {b : Bool} (h : (qs_fk ci)[k]? = some b) : (qs_fs S a ci)[k]? = some (qs_fv S a k b) := by
  unfold qs_fs
  rw [List.getElem?_mapIdx, h]
  rfl
theorem qs_fs_len {S : qs_S} {a ci k : Nat} {b : Bool} (h : (qs_fk ci)[k]? = some b) : k < (qs_fs S a ci).length := by
  unfold qs_fs
  rw [List.length_mapIdx]
  exact (List.getElem?_eq_some_iff.mp h).1
theorem qs_set (g : qs_G) {A : Nat → Prop} {S S' : qs_S} {a k : Nat} {e : va_E} (hD : va_D A (qs_ws g S)) (hL : a ∈ qs_L S) (hk : (qs_ws g S)[k]? = some (a, qs_e g S a)) (hS : qs_L S' = qs_L S) (h1 : e = qs_e g S' a) (h2 : ∀ b, b ≠ a → qs_e g S b = qs_e g S' b) : (qs_ws g S).set k (a, e) = qs_ws g S' := by
  unfold qs_ws at hD hk ⊢
  rw [va_pl_set hD hL hk, hS]
  refine congrArg (fun l => g.2.2.2.2.2.1 ++ l) (va_pl_congr (fun b => ?_))
  by_cases hb : b = a
  · subst hb
    rw [va_up_self, h1]
  · rw [va_up_ne _ _ hb, h2 b hb]
theorem qs_fs_wI_ne {S : qs_S} {k a b ci : Nat} {v : Int32} (h : b ≠ a) : qs_fs S b ci = qs_fs (qs_wI S k a v) b ci := by
  unfold qs_fs
  congr 1
  funext k' x
  cases x
  · show Value.int (qs_I S k' b) = Value.int (if k' = k ∧ b = a then v else qs_I S k' b)
    rw [if_neg (fun z => h z.2)]
  · rfl
theorem qs_fs_wR_ne {S : qs_S} {k a b ci : Nat} {v : Option Nat} (h : b ≠ a) : qs_fs S b ci = qs_fs (qs_wR S k a v) b ci := by
  unfold qs_fs
  congr 1
  funext k' x
  cases x
  · rfl
  · show va_rf (qs_R S k' b) = va_rf (if k' = k ∧ b = a then v else qs_R S k' b)
    rw [if_neg (fun z => h z.2)]
theorem qs_fs_wI {S : qs_S} {k a ci : Nat} {v : Int32} (h : (qs_fk ci)[k]? = some false) : (qs_fs S a ci).set k (.int v) = qs_fs (qs_wI S k a v) a ci := by
  refine List.ext_getElem? (fun j => ?_)
  unfold qs_fs
  rw [List.getElem?_set, List.length_mapIdx, List.getElem?_mapIdx, List.getElem?_mapIdx]
  by_cases hj : k = j
  · subst hj
    rw [if_pos rfl, if_pos (List.getElem?_eq_some_iff.mp h).1, h]
    show some (Value.int v) = some (Value.int (if k = k ∧ a = a then v else qs_I S k a))
    rw [if_pos ⟨rfl, rfl⟩]
  · rw [if_neg hj]
    congr 1
    funext x
    cases x
    · show Value.int (qs_I S j a) = Value.int (if j = k ∧ a = a then v else qs_I S j a)
      rw [if_neg (fun z => hj z.1.symm)]
    · rfl
theorem qs_fs_wR {S : qs_S} {k a ci : Nat} {v : Option Nat} (h : (qs_fk ci)[k]? = some true) : (qs_fs S a ci).set k (va_rf v) = qs_fs (qs_wR S k a v) a ci := by
  refine List.ext_getElem? (fun j => ?_)
  unfold qs_fs
  rw [List.getElem?_set, List.length_mapIdx, List.getElem?_mapIdx, List.getElem?_mapIdx]
  by_cases hj : k = j
  · subst hj
    rw [if_pos rfl, if_pos (List.getElem?_eq_some_iff.mp h).1, h]
    show some (va_rf v) = some (va_rf (if k = k ∧ a = a then v else qs_R S k a))
    rw [if_pos ⟨rfl, rfl⟩]
  · rw [if_neg hj]
    congr 1
    funext x
    cases x
    · rfl
    · show va_rf (qs_R S j a) = va_rf (if j = k ∧ a = a then v else qs_R S j a)
      rw [if_neg (fun z => hj z.1.symm)]
/-- what is known of the statics, the words of the tables that no list of a method holds, the texts -/
def qs_cast : List (String × String) := [("java/util/ArrayList", "java/lang/Object"), ("QuayMesh$Box", "java/lang/Object"), ("QuayMesh$Crane", "java/lang/Object"), ("QuayMesh$Message", "java/lang/Object"), ("QuayMesh$Ship", "java/lang/Object"), ("QuayMesh$Truck", "java/lang/Object"), ("QuayMesh", "java/lang/Object"), ("QuayMeshModel", "java/lang/Object"), ("java/lang/IndexOutOfBoundsException", "java/lang/IndexOutOfBoundsException"), ("java/lang/IllegalArgumentException", "java/lang/IllegalArgumentException"), ("java/lang/IllegalStateException", "java/lang/IllegalStateException")]
def qs_nocast : List (String × String) := [("java/lang/IllegalArgumentException", "java/lang/IndexOutOfBoundsException"), ("java/lang/IllegalStateException", "java/lang/IndexOutOfBoundsException"), ("java/lang/IndexOutOfBoundsException", "java/lang/IllegalArgumentException"), ("java/lang/IllegalStateException", "java/lang/IllegalArgumentException"), ("java/lang/IndexOutOfBoundsException", "java/lang/IllegalStateException"), ("java/lang/IllegalArgumentException", "java/lang/IllegalStateException")]
def qs_str : List (String × Nat × String) := [("QuayMesh", 139, "there are all messages that there can be, or all cranes are silent"), ("QuayMesh", 114, "there is no such kind"), ("QuayMesh", 340, "there is no such one"), ("QuayMesh", 328, "the hours are out of range"), ("QuayMesh", 326, "the box is not booked"), ("QuayMesh", 205, "so many cannot be lost at once"), ("QuayMesh", 344, "there is no such truck"), ("QuayMesh", 88, "the ship does not lie at the place"), ("QuayMesh", 219, "there is no message to repeat"), ("QuayMesh", 57, "the length is out of range"), ("QuayMesh", 228, "only a silent crane's messages are given, and to another one"), ("QuayMesh", 237, "the crane is silent, or cannot go there"), ("QuayMesh", 342, "the ship has left"), ("QuayMesh", 306, "the hour is out of range"), ("QuayMesh", 330, "the hours end there"), ("QuayMesh", 90, "there are all the boxes that there can be"), ("QuayMesh", 129, "the worker is no such one"), ("QuayMesh", 108, "a box is on the ship"), ("QuayMesh", 72, "there is no berth for the ship"), ("QuayMesh", 318, "the box cannot be booked")]
def qs_dec : List String := ["java/lang/RuntimeException", "java/lang/Exception", "java/lang/Throwable"]
def qs_E (t0 m9 : Nat) (A : Nat → Prop) (U : State) (H : Heap) : Prop :=
  va_Z "java/util/ArrayList" "DEFAULTCAPACITY_EMPTY_ELEMENTDATA" "[Ljava/lang/Object;" (.ref t0) A U H ∧ va_T (.object "java/lang/Object") t0 0 (fun _ => .null) A U H ∧
  vx_Zq Bundle.tN "UNASSIGNED_STACK" Bundle.steD A U H ∧ vx_Zq Bundle.tN "SUPPRESSED_SENTINEL" Bundle.listD A U H ∧ va_Mi "[Ljava/lang/Object;" m9 U ∧ va_Dc U ∧
  (∀ q ∈ qs_cast, va_Nw (.castable q.1 q.2) U) ∧ (∀ q ∈ qs_nocast, va_Nc q.1 q.2 U) ∧ (va_AO "java/lang/Object" U ∧ (∀ y ∈ qs_dec, va_Nw (.declares (Bundle.initS y)) U) ∧ va_Nw (.methodLinkNest "QuayMesh$Worker" 39 ⟨"QuayMesh", "indexOf", "(LQuayMesh$Message;Ljava/util/ArrayList;)I"⟩ "QuayMesh") U) ∧ ∀ q ∈ qs_str, ∃ sa : Nat, vk_R q.1 q.2.1 q.2.2 sa U
theorem qs_E.warm {t0 m9 : Nat} {A B : Nat → Prop} {s U : State} {H : Heap} (hW : s.WarmedH U.vm) (hk : ∀ a : Nat, a < s.heap.size → ¬ A a → H[a]? = s.heap[a]?) (hAB : ∀ q, B q → A q) (h : qs_E t0 m9 A s s.heap) : qs_E t0 m9 B U H := by
  obtain ⟨h1, h2, h3, h4, h5, h6, h7, h8, ⟨h10, h11, h12⟩, h9⟩ := h
  refine ⟨((h1.kept hk).narrow hAB).moved hW.alike, ((h2.kept hk).narrow hAB).moved hW.alike, ((h3.kept hk).narrow hAB).moved hW.alike, ((h4.kept hk).narrow hAB).moved hW.alike, h5.moved hW.alike, h6.moved hW.alike, fun q hq => (h7 q hq).warmC hW, fun q hq => (h8 q hq).moved hW.alike, ⟨h10.moved hW.alike, fun y hy => (h11 y hy).warmD hW, h12.warmM hW⟩, fun q hq => ?_⟩
  obtain ⟨sa, z⟩ := h9 q hq
  exact ⟨sa, z.warm hW⟩
theorem qs_E.same {t0 m9 : Nat} {A : Nat → Prop} {u U : State} {H : Heap} (hv : U.vm = u.vm) (h : qs_E t0 m9 A u H) : qs_E t0 m9 A U H := by
  have al : u.vm.Alike U.vm := by rw [hv]; exact Vm.Alike.refl _
  obtain ⟨h1, h2, h3, h4, h5, h6, h7, h8, ⟨h10, h11, h12⟩, h9⟩ := h
  refine ⟨h1.moved al, h2.moved al, h3.moved al, h4.moved al, h5.moved al, h6.moved al, fun q hq => (h7 q hq).same rfl hv.symm, fun q hq => (h8 q hq).moved al, ⟨h10.moved al, fun y hy => (h11 y hy).same rfl hv.symm, h12.same rfl hv.symm⟩, fun q hq => ?_⟩
  obtain ⟨sa, z⟩ := h9 q hq
  exact ⟨sa, z.same hv⟩
/-- the world in the middle of a method -/
def qs_Gd (g : qs_G) (A : Nat → Prop) (s : State) (S : qs_S) (H : Heap) (locs : List Loc) : Prop :=
  va_K g.1 vwCl (qs_ty g) s ∧ va_P g.1 vwCl (qs_ws g S) H ∧ va_D A (qs_ws g S) ∧ va_S A s.heap H locs ∧ (∀ q : Nat, s.heap.size ≤ q → A q) ∧ qs_E g.2.2.2.2.2.2.1 g.2.2.2.2.2.2.2 A s s.heap
/-- a method's start, its free cells, the world behind it -/
def qs_Pc (g : qs_G) (sz : Nat) (S : qs_S) (av : List Value) : Array Value → State → Prop := va_Pc av (fun U => U.heap.size = sz ∧ va_K g.1 vwCl (qs_ty g) U ∧ va_P g.1 vwCl (qs_ws g S) U.heap ∧ va_D (fun _ => True) (qs_ws g S) ∧ qs_E g.2.2.2.2.2.2.1 g.2.2.2.2.2.2.2 (va_A (qs_ws g S) sz) U U.heap)
def qs_F (g : qs_G) (S : qs_S) (sz : Nat) : Nat → Prop := va_A (qs_ws g S) sz
def qs_B (g : qs_G) (A : Nat → Prop) (S : qs_S) (t : State) : Prop := va_K g.1 vwCl (qs_ty g) t ∧ va_P g.1 vwCl (qs_ws g S) t.heap ∧ va_D A (qs_ws g S)
theorem qs_Pc.blind (g : qs_G) (sz : Nat) (S : qs_S) (av : List Value) : FrameBlind (qs_Pc g sz S av) := fun a U fr mk q => by
  obtain ⟨h0, h1, h2, h3, h4, h5⟩ := q
  exact ⟨h0, h1, va_K.moved (u := U) (U := U.calling fr mk a) (Vm.Alike.refl U.vm) h2, h3, h4, qs_E.same (u := U) (U := U.calling fr mk a) rfl h5⟩
theorem qs_Gd.sub {g : qs_G} {A : Nat → Prop} {s : State} {S : qs_S} {H : Heap} {locs : List Loc} (h : qs_Gd g A s S H locs) : ∀ q, qs_F g S H.size q → A q := by
  intro q hq
  rcases hq with ⟨k, e, hk⟩ | hq
  · exact h.2.2.1.2 k (q, e) hk
  · exact h.2.2.2.2.1 q (Nat.le_trans h.2.2.2.1.1 hq)
theorem qs_Gd.pre {g : qs_G} {A : Nat → Prop} {s : State} {S : qs_S} {H : Heap} {locs : List Loc} (h : qs_Gd g A s S H locs) (av : List Value) : ∀ U : State, U.heap = H → s.WarmedH U.vm → qs_Pc g H.size S av av.toArray U := by
  intro U hU hW
  subst hU
  exact ⟨rfl, rfl, va_K.moved hW.alike h.1, h.2.1, h.2.2.1.weaken (fun _ _ _ _ => trivial), h.2.2.2.2.2.warm hW h.2.2.2.1.2.1 h.sub⟩
theorem qs_Gd.recv {g : qs_G} {A : Nat → Prop} {s : State} {S : qs_S} {H : Heap} {locs : List Loc} {a ci : Nat} {C : String} {T : u_T} {N : Nat} (h : qs_Gd g A s S H locs) (hL : a ∈ qs_L S) (hk : qs_K S a = ci) (h8 : ci < 8) (hc : vwCl[ci]? = some (C, T, N)) : ∃ cell : Cell, H[a]? = some cell ∧ cell.vm.isStatics = false ∧ s.vm.findClass C = some cell.cls := by
  obtain ⟨k, hz⟩ := qs_at g hL
  rw [qs_eo g hk h8] at hz
  exact va_recv h.1 h.2.1 hc hz
theorem qs_Gd.any {g : qs_G} {A : Nat → Prop} {s : State} {S : qs_S} {H : Heap} {locs : List Loc} {a : Nat} (h : qs_Gd g A s S H locs) (hL : a ∈ qs_L S) (h8 : qs_K S a < 8) : va_Any "java/lang/Object" s H a := by
  obtain ⟨k, hz⟩ := qs_at g hL
  rw [qs_eo g rfl h8] at hz
  have hx : ∃ r : vw_C, vwCl[qs_K S a]? = some r ∧ (r.1, "java/lang/Object") ∈ qs_cast := by
    generalize qs_K S a = j at h8
    rcases (show j = 0 ∨ j = 1 ∨ j = 2 ∨ j = 3 ∨ j = 4 ∨ j = 5 ∨ j = 6 ∨ j = 7 by omega) with rfl | rfl | rfl | rfl | rfl | rfl | rfl | rfl
    · exact ⟨_, rfl, by decide +kernel⟩
    · exact ⟨_, rfl, by decide +kernel⟩
    · exact ⟨_, rfl, by decide +kernel⟩
    · exact ⟨_, rfl, by decide +kernel⟩
    · exact ⟨_, rfl, by decide +kernel⟩
    · exact ⟨_, rfl, by decide +kernel⟩
    · exact ⟨_, rfl, by decide +kernel⟩
    · exact ⟨_, rfl, by decide +kernel⟩
  obtain ⟨r, hr, hm⟩ := hx
  exact va_rAny h.1 h.2.1 hz hr (vb_asgC (h.2.2.2.2.2.2.2.2.2.2.2.1 _ hm))
theorem qs_Gd.start {g : qs_G} {s : State} {S : qs_S} {sz : Nat} {av : List Value} {args : Array Value} (h : qs_Pc g sz S av args s) : args = av.toArray ∧ s.heap.size = sz ∧ qs_Gd g (qs_F g S sz) s S s.heap [] := by
  obtain ⟨h0, h1, h2, h3, h4, h5⟩ := h
  subst h1
  exact ⟨h0, rfl, h2, h3, h4.self, va_S.rf, fun q hq => Or.inr hq, h5⟩

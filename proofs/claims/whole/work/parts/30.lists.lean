/-! ===== plain facts: the pool's cells from state to state ===== -/
/-- the cell b is in both, with the same fields -/
def ps_Sm (S S' : qs_S) (b : Nat) : Prop := (∀ k, qs_I S' k b = qs_I S k b) ∧ (∀ k, qs_R S' k b = qs_R S k b) ∧ qs_Z S' b = qs_Z S b ∧ (∀ i, qs_A S' b i = qs_A S b i) ∧ (∀ i, qs_O S' b i = qs_O S b i)
/-- no cell goes, no kind changes; what isn't P's stays as it is -/
def ps_Fr (t0 : Nat) (S S' : qs_S) (P : Nat → Prop) : Prop := (∀ b, b ∈ qs_L S → b ∈ qs_L S' ∧ qs_K S' b = qs_K S b) ∧ (∀ b, b ∈ qs_L S → ¬ P b → ps_Sm S S' b) ∧ (t0 ∉ qs_L S → t0 ∉ qs_L S')
theorem ps_Sm.rf {S : qs_S} {b : Nat} : ps_Sm S S b := ⟨fun _ => rfl, fun _ => rfl, rfl, fun _ => rfl, fun _ => rfl⟩
theorem ps_Sm.tr {S S1 S2 : qs_S} {b : Nat} (h : ps_Sm S S1 b) (k : ps_Sm S1 S2 b) : ps_Sm S S2 b := ⟨fun j => (k.1 j).trans (h.1 j), fun j => (k.2.1 j).trans (h.2.1 j), k.2.2.1.trans h.2.2.1, fun j => (k.2.2.2.1 j).trans (h.2.2.2.1 j), fun j => (k.2.2.2.2 j).trans (h.2.2.2.2 j)⟩
theorem ps_Fr.rf {t0 : Nat} {S : qs_S} {P : Nat → Prop} : ps_Fr t0 S S P := ⟨fun _ h => ⟨h, rfl⟩, fun _ _ _ => ps_Sm.rf, fun h => h⟩
theorem ps_Fr.tr {t0 : Nat} {S S1 S2 : qs_S} {P : Nat → Prop} (h : ps_Fr t0 S S1 P) (k : ps_Fr t0 S1 S2 P) : ps_Fr t0 S S2 P :=
  ⟨fun b hb => ⟨(k.1 b (h.1 b hb).1).1, (k.1 b (h.1 b hb).1).2.trans (h.1 b hb).2⟩, fun b hb hp => (h.2.1 b hb hp).tr (k.2.1 b (h.1 b hb).1 hp), fun ht => k.2.2 (h.2.2 ht)⟩
theorem ps_Fr.wk {t0 : Nat} {S S' : qs_S} {P Q : Nat → Prop} (h : ps_Fr t0 S S' P) (hPQ : ∀ b, b ∈ qs_L S → P b → Q b) : ps_Fr t0 S S' Q := ⟨h.1, fun b hb hq => h.2.1 b hb (fun z => hq (hPQ b hb z)), h.2.2⟩
theorem ps_Fr.wI {t0 : Nat} {S : qs_S} {P : Nat → Prop} {k a : Nat} {v : Int32} (hP : P a) : ps_Fr t0 S (qs_wI S k a v) P :=
  ⟨fun _ h => ⟨h, rfl⟩, fun b _ hp => ⟨fun j => if_neg (fun z : j = k ∧ b = a => hp (z.2 ▸ hP)), fun _ => rfl, rfl, fun _ => rfl, fun _ => rfl⟩, fun h => h⟩
theorem ps_Fr.wR {t0 : Nat} {S : qs_S} {P : Nat → Prop} {k a : Nat} {v : Option Nat} (hP : P a) : ps_Fr t0 S (qs_wR S k a v) P :=
  ⟨fun _ h => ⟨h, rfl⟩, fun b _ hp => ⟨fun _ => rfl, fun j => if_neg (fun z : j = k ∧ b = a => hp (z.2 ▸ hP)), rfl, fun _ => rfl, fun _ => rfl⟩, fun h => h⟩
theorem ps_Fr.wA {t0 : Nat} {S : qs_S} {P : Nat → Prop} {a i : Nat} {v : Int32} (hP : P a) : ps_Fr t0 S (qs_wA S a i v) P :=
  ⟨fun _ h => ⟨h, rfl⟩, fun b _ hp => ⟨fun _ => rfl, fun _ => rfl, rfl, fun j => if_neg (fun z : b = a ∧ j = i => hp (z.1 ▸ hP)), fun _ => rfl⟩, fun h => h⟩
theorem ps_Fr.wO {t0 : Nat} {S : qs_S} {P : Nat → Prop} {a i : Nat} {v : Option Nat} (hP : P a) : ps_Fr t0 S (qs_wO S a i v) P :=
  ⟨fun _ h => ⟨h, rfl⟩, fun b _ hp => ⟨fun _ => rfl, fun _ => rfl, rfl, fun _ => rfl, fun j => if_neg (fun z : b = a ∧ j = i => hp (z.1 ▸ hP))⟩, fun h => h⟩
theorem ps_Fr.cO {t0 : Nat} {S : qs_S} {P : Nat → Prop} {b0 a sp dp n : Nat} (hP : P a) : ps_Fr t0 S (qs_cO S b0 a sp dp n) P :=
  ⟨fun _ h => ⟨h, rfl⟩, fun b _ hp => ⟨fun _ => rfl, fun _ => rfl, rfl, fun _ => rfl, fun j => congrFun (show qs_O (qs_cO S b0 a sp dp n) b = qs_O S b from if_neg (fun z : b = a => hp (z ▸ hP))) j⟩, fun h => h⟩
theorem ps_Fr.nA {t0 : Nat} {S : qs_S} {P : Nat → Prop} {q ci n : Nat} (hq : q ∉ qs_L S) (ht : q ≠ t0) : ps_Fr t0 S (qs_nA S q ci n) P := by
  refine ⟨fun b h => ⟨qs_nAL h, qs_nAE hq h⟩, fun b h _ => ?_, fun h z => ?_⟩
  · have hb : ¬ b = q := fun z => hq (z ▸ h)
    exact ⟨fun _ => rfl, fun _ => rfl, if_neg hb, fun _ => if_neg hb, fun _ => if_neg hb⟩
  · rcases List.mem_append.mp z with z | z
    · exact h z
    · exact ht (List.mem_singleton.mp z).symm
theorem ps_Fr.nw {t0 : Nat} {S : qs_S} {P : Nat → Prop} {q ci : Nat} (hq : q ∉ qs_L S) (ht : q ≠ t0) : ps_Fr t0 S (qs_nw S q ci) P := by
  refine ⟨fun b h => ⟨qs_nwL h, qs_nwE hq h⟩, fun b h _ => ?_, fun h z => ?_⟩
  · have hb : ¬ b = q := fun z => hq (z ▸ h)
    exact ⟨fun _ => if_neg hb, fun _ => if_neg hb, rfl, fun _ => rfl, fun _ => rfl⟩
  · rcases List.mem_append.mp z with z | z
    · exact h z
    · exact ht (List.mem_singleton.mp z).symm
theorem ps_Fr.grow {t0 : Nat} {S : qs_S} {P : Nat → Prop} {q c d n : Nat} (hq : q ∉ qs_L S) (ht : q ≠ t0) : ps_Fr t0 S (qs_cO (qs_nA S q 10 c) d q 0 0 n) P := by
  have f : ps_Fr t0 S (qs_nA S q 10 c) P := ps_Fr.nA hq ht
  refine ⟨f.1, fun b h hp => ?_, f.2.2⟩
  have hb : ¬ b = q := fun z => hq (z ▸ h)
  have k := f.2.1 b h hp
  exact ⟨k.1, k.2.1, k.2.2.1, k.2.2.2.1, fun i => (congrFun (show qs_O (qs_cO (qs_nA S q 10 c) d q 0 0 n) b = qs_O (qs_nA S q 10 c) b from if_neg hb) i).trans (k.2.2.2.2 i)⟩
/-! ===== an ArrayList at a, its row of elements at d, holds xs ===== -/
def ps_Ls (t0 : Nat) (S : qs_S) (a d : Nat) (xs : List Nat) : Prop :=
  a ∈ qs_L S ∧ qs_K S a = 0 ∧ qs_R S 1 a = some d ∧ qs_I S 2 a = nI xs.length ∧
  ((d = t0 ∧ xs = []) ∨ (d ≠ t0 ∧ d ∈ qs_L S ∧ qs_K S d = 10 ∧ 2 ≤ qs_Z S d ∧ qs_Z S d ≤ 40000 ∧ xs.length ≤ qs_Z S d ∧ ∀ j, j < xs.length → qs_O S d j = some (xs.getD j 0))) ∧ ∀ y, y ∈ xs → y ∈ qs_L S ∧ qs_K S y < 8
theorem ps_Ls.len {t0 : Nat} {S : qs_S} {a d : Nat} {xs : List Nat} (h : ps_Ls t0 S a d xs) : xs.length ≤ 40000 := by
  rcases h.2.2.2.2.1 with ⟨-, h⟩ | ⟨-, -, -, -, h1, h2, -⟩
  · rw [h]; exact Nat.zero_le _
  · exact Nat.le_trans h2 h1
theorem ps_Ls.fr {t0 : Nat} {S S' : qs_S} {a d : Nat} {xs : List Nat} {P : Nat → Prop} (h : ps_Ls t0 S a d xs) (f : ps_Fr t0 S S' P) (ha : ¬ P a) (hd : d ≠ t0 → ¬ P d) : ps_Ls t0 S' a d xs := by
  obtain ⟨h1, h2, h3, h4, h5, h6⟩ := h
  have s := f.2.1 a h1 ha
  refine ⟨(f.1 a h1).1, (f.1 a h1).2.trans h2, (s.2.1 1).trans h3, (s.1 2).trans h4, ?_, fun y hy => ⟨(f.1 y (h6 y hy).1).1, by rw [(f.1 y (h6 y hy).1).2]; exact (h6 y hy).2⟩⟩
  rcases h5 with h5 | ⟨e1, e2, e3, e4, e5, e6, e7⟩
  · exact Or.inl h5
  · have sd := f.2.1 d e2 (hd e1)
    exact Or.inr ⟨e1, (f.1 d e2).1, (f.1 d e2).2.trans e3, by rw [sd.2.2.1]; exact e4, by rw [sd.2.2.1]; exact e5, by rw [sd.2.2.1]; exact e6, fun j hj => (sd.2.2.2.2 j).trans (e7 j hj)⟩
theorem pl_size {t0 m9 : Nat} {S : qs_S} {a d : Nat} {xs : List Nat} {post : Int32 → qs_S → Prop} (h : ps_Ls t0 S a d xs) (hp : post (nI xs.length) S) : wp_Jx4a65c_size_8abf5 t0 m9 post S a :=
  ⟨⟨h.1, h.2.1⟩, fun v e => by rw [e, h.2.2.2.1]; exact hp⟩
theorem pl_isEmpty {t0 m9 : Nat} {S : qs_S} {a d : Nat} {xs : List Nat} {post : Int32 → qs_S → Prop} (h : ps_Ls t0 S a d xs) (h0 : xs = [] → post 1 S) (h1 : xs ≠ [] → post 0 S) : wp_Jx4a65c_isEmpty_aae02 t0 m9 post S a := by
  have hb := h.len
  refine ⟨⟨h.1, h.2.1⟩, fun v e => ⟨fun c => ⟨Or.inl rfl, h1 (fun z => c ?_)⟩, fun c => ⟨Or.inr rfl, h0 ?_⟩⟩⟩
  · rw [e, h.2.2.2.1, z]; rfl
  · rw [e, h.2.2.2.1] at c
    have : xs.length = 0 := (nI_eq (b := 0) (by omega) (by decide)).mp c
    exact List.length_eq_zero_iff.mp this
theorem pl_check {t0 m9 : Nat} {S : qs_S} {i n : Nat} {post : Int32 → qs_S → Prop} (hi : i < n) (hn : n < 2 ^ 31) (hp : post (nI i) S) : wp_J15_checkIndex_7cf53 t0 m9 post S (nI i) (nI n) :=
  ⟨fun c => absurd c (nI_pos (by omega)), fun _ => ⟨fun _ => hp, fun c => absurd (nI_lt hi hn) c⟩⟩
theorem ps_Ls.at {t0 : Nat} {S : qs_S} {a d i : Nat} {xs : List Nat} (h : ps_Ls t0 S a d xs) (hi : i < xs.length) : d ≠ t0 ∧ d ∈ qs_L S ∧ qs_K S d = 10 ∧ i < qs_Z S d ∧ qs_O S d i = some (xs.getD i 0) := by
  rcases h.2.2.2.2.1 with ⟨-, z⟩ | ⟨e1, e2, e3, e4, e5, e6, e7⟩
  · rw [z] at hi; exact absurd hi (Nat.not_lt_zero _)
  · exact ⟨e1, e2, e3, by omega, e7 i hi⟩
theorem pl_get {t0 m9 : Nat} {S : qs_S} {a d i : Nat} {xs : List Nat} {post : Option Nat → qs_S → Prop} (h : ps_Ls t0 S a d xs) (hi : i < xs.length) (hp : post (some (xs.getD i 0)) S) : wp_Jx4a65c_get_915e3 t0 m9 post S a (nI i) := by
  have hb := h.len
  obtain ⟨-, e2, e3, e4, e5⟩ := h.at hi
  have hZ : qs_Z S d ≤ 40000 := by
    rcases h.2.2.2.2.1 with ⟨-, z⟩ | ⟨-, -, -, -, z, -⟩
    · rw [z] at hi; exact absurd hi (Nat.not_lt_zero _)
    · exact z
  refine ⟨⟨h.1, h.2.1⟩, fun v e => ?_⟩
  rw [e, h.2.2.2.1]
  refine pl_check hi (by omega) ⟨⟨h.1, h.2.1⟩, ⟨h.1, h.2.1⟩, d, h.2.2.1, ⟨e2, e3⟩, vp_in_nI e4 (by omega), xs.getD i 0, ?_, _, rfl, hp⟩
  rw [nI_clamp (by omega)]
  exact e5
theorem ps_nnx {x : Int32} (h : ∃ n : Nat, n < 2 ^ 31 ∧ x = nI n) : ¬ x < 0 := by
  obtain ⟨n, h1, h2⟩ := h
  rw [h2]
  exact nI_pos h1
theorem pl_copy {t0 m9 mc ms : Nat} {S : qs_S} {d n c : Nat} {post : Option Nat → qs_S → Prop} (hL : d ∈ qs_L S) (hk : qs_K S d = 10) (hn : n = qs_Z S d) (hnc : n ≤ c) (hc : c ≤ 100000) (hmc : 1 ≤ mc) (hms : c ≤ ms) (hel : ∀ i, i < n → ∀ y, qs_O S d i = some y → y ∈ qs_L S ∧ qs_K S y < 8) (hdt : d ≠ t0)
    (hp : ∀ q, q ∉ qs_L S → q ≠ t0 → post (some q) (qs_cO (qs_nA S q 10 c) d q 0 0 n)) : wp_J7_copyOf_1904c t0 m9 mc ms post S d (nI c) := by
  refine ⟨⟨hL, hk⟩, mc, ms, ⟨by omega, by omega⟩, ⟨fun z => (z rfl).elim, fun _ => ?_⟩⟩
  have hcl : (nI c).toNatClampNeg = c := nI_clamp (by omega)
  rw [hcl]
  refine ⟨⟨⟨by omega, by omega⟩, nI_pos (by omega), by omega⟩, fun q hq hqt => ?_⟩
  have hqd : ¬ d = q := fun z => hq (z ▸ hL)
  have e1 : qs_Z (qs_nA S q 10 c) d = n := by rw [hn]; exact if_neg hqd
  have e2 : qs_Z (qs_nA S q 10 c) q = c := if_pos rfl
  refine ⟨Or.inr ⟨qs_nAL hL, qs_nAK hq hL hk⟩, fun v9 e9 v10 e10 => ?_⟩
  have hv9 : v9 = nI n := by rw [e9, qs_len, if_neg hdt, e1]
  have hv10 : v10 = nI n := by
    rw [e10, hv9]
    by_cases h : n = c
    · rw [h, ite_self]
    · exact if_neg (nI_nlt hnc (by omega))
  rw [hv10]
  have hnl : (nI n).toNatClampNeg = n := nI_clamp (by omega)
  have h0 : (0 : Int32).toNatClampNeg = 0 := by decide
  rw [hnl, h0, e1, e2]
  refine ⟨⟨qs_nAL hL, qs_nAK hq hL hk⟩, ⟨by decide, by decide, nI_pos (by omega), by omega, by omega, fun i hi y hy => ?_⟩, ⟨q, rfl, hp q hq hqt⟩⟩
  have hy' : qs_O S d i = some y := by
    rw [Nat.zero_add] at hy
    exact (show qs_O (qs_nA S q 10 c) d i = qs_O S d i from if_neg hqd).symm.trans hy
  obtain ⟨y1, y2⟩ := hel i hi y hy'
  exact ⟨qs_nAL y1, by rw [qs_nAE hq y1]; exact y2⟩
theorem ps_Ls.wI0 {t0 : Nat} {S : qs_S} {a d : Nat} {xs : List Nat} {v : Int32} (h : ps_Ls t0 S a d xs) : ps_Ls t0 (qs_wI S 0 a v) a d xs :=
  ⟨h.1, h.2.1, h.2.2.1, (show (if 2 = 0 ∧ a = a then v else qs_I S 2 a) = nI xs.length by rw [if_neg (by omega)]; exact h.2.2.2.1), h.2.2.2.2.1, h.2.2.2.2.2⟩
theorem ps_getD_app {xs : List Nat} {q j : Nat} (h : j < xs.length) : (xs ++ [q]).getD j 0 = xs.getD j 0 := by
  rw [List.getD_eq_getElem?_getD, List.getD_eq_getElem?_getD, List.getElem?_append_left h]
theorem ps_getD_last {xs : List Nat} {q : Nat} : (xs ++ [q]).getD xs.length 0 = q := by
  rw [List.getD_eq_getElem?_getD, List.getElem?_append_right (Nat.le_refl _), Nat.sub_self]
  rfl
/-- the store behind the room's check -/
theorem pl_b11 {t0 m9 mc ms k n : Nat} {S : qs_S} {a d q : Nat} {xs : List Nat} {post : qs_S → Prop} (ha : a ∈ qs_L S) (hk : qs_K S a = 0) (hr : qs_R S 1 a = some d) (hdt : d ≠ t0) (hd : d ∈ qs_L S) (hdk : qs_K S d = 10) (hlt : xs.length < qs_Z S d) (hz2 : 2 ≤ qs_Z S d) (hz : qs_Z S d ≤ 40000) (hel : ∀ j, j < xs.length → qs_O S d j = some (xs.getD j 0)) (hy : ∀ y, y ∈ xs → y ∈ qs_L S ∧ qs_K S y < 8) (hq : q ∈ qs_L S) (hq8 : qs_K S q < 8)
    (hp : ∀ S', ps_Ls t0 S' a d (xs ++ [q]) → ps_Fr t0 S S' (fun b => b = a ∨ b = d) → post S') : wp_Jx4a65c_add_72be8_b11 t0 m9 mc ms post k n S a q d (nI xs.length) := by
  refine ⟨⟨hd, hdk⟩, vp_in_nI hlt (by omega), ⟨hq, hq8⟩, fun v6 e6 => ⟨⟨ha, hk⟩, ?_⟩⟩
  rw [nI_clamp (by omega)]
  refine hp _ ⟨ha, hk, hr, ?_, Or.inr ⟨hdt, hd, hdk, hz2, hz, ?_, fun j hj => ?_⟩, fun y h => ?_⟩ ((ps_Fr.wO (Or.inr rfl)).tr (ps_Fr.wI (Or.inl rfl)))
  · show (if 2 = 2 ∧ a = a then v6 else qs_I S 2 a) = nI (xs ++ [q]).length
    rw [if_pos ⟨rfl, rfl⟩, e6, nI_1, List.length_append]
    rfl
  · show (xs ++ [q]).length ≤ qs_Z S d
    rw [List.length_append]
    exact hlt
  · show (if d = d ∧ j = xs.length then some q else qs_O S d j) = some ((xs ++ [q]).getD j 0)
    rw [List.length_append] at hj
    by_cases hjx : j = xs.length
    · rw [if_pos ⟨rfl, hjx⟩, hjx, ps_getD_last]
    · rw [if_neg (fun z => hjx z.2), ps_getD_app (by simp at hj; omega)]
      exact hel j (by simp at hj; omega)
  · rcases List.mem_append.mp h with h | h
    · exact hy y h
    · rw [List.mem_singleton.mp h]; exact ⟨hq, hq8⟩
theorem pl_newLength {t0 m9 n h : Nat} {S : qs_S} {post : Int32 → qs_S → Prop} (h1 : 1 ≤ h) (hn : n ≤ 100000) (hh : h ≤ 100000) (hp : post (nI (n + h)) S) : wp_J8_newLength_cabcc t0 m9 post S (nI n) 1 (nI h) := by
  intro v1 e1 v2 e2
  have hv1 : v1 = nI h := by
    rw [e1]
    by_cases c : 1 < h
    · exact if_pos (nI_lt (a := 1) c (by omega))
    · rw [show h = 1 by omega]
      rfl
  rw [hv1, nI_add] at e2
  rw [e2]
  exact ⟨fun c => absurd c (nI_nle (by omega) (by omega)), fun _ => ⟨fun c => absurd c (nI_nlt (a := 2147483639) (b := n + h) (by omega) (by decide)), fun _ => hp⟩⟩
/-- a full row is made larger -/
theorem pl_grow {t0 m9 mc ms : Nat} {S : qs_S} {a d : Nat} {xs : List Nat} {post : Option Nat → qs_S → Prop} (h : ps_Ls t0 S a d xs) (hfull : xs.length = qs_len t0 S d) (hlen : xs.length ≤ 400) (hmc : 1 ≤ mc) (hms : 10 + xs.length + xs.length / 2 ≤ ms) (had : a ≠ d)
    (hp : ∀ S' q, q ∉ qs_L S → q ≠ t0 → q ∈ qs_L S' → qs_K S' q = 10 → qs_R S' 1 a = some q → xs.length < qs_Z S' q → 2 ≤ qs_Z S' q → qs_Z S' q ≤ 40000 → (∀ j, j < xs.length → qs_O S' q j = some (xs.getD j 0)) → ps_Fr t0 S S' (fun b => b = a) → post (some q) S') : wp_Jx4a65c_grow_d5877 t0 m9 mc ms post S a := by
  refine ⟨⟨h.1, h.2.1⟩, fun v3 e3 v4 e4 => ⟨mc, ms, ⟨by omega, by omega⟩, ⟨h.1, h.2.1⟩, d, h.2.2.1, ?_, fun v21 e21 => ?_⟩⟩
  · rcases h.2.2.2.2.1 with ⟨z, -⟩ | ⟨-, z, k, -⟩
    · exact Or.inl z
    · exact Or.inr ⟨z, k⟩
  rw [h.2.2.2.1] at e3
  rw [e3, nI_1] at e4
  rw [← hfull] at e21
  have fin : ∀ (S' : qs_S) (q : Nat), q ∉ qs_L S → q ≠ t0 → q ∈ qs_L S' → qs_K S' q = 10 → xs.length < qs_Z S' q → 2 ≤ qs_Z S' q → qs_Z S' q ≤ 40000 → (∀ j, j < xs.length → qs_O S' q j = some (xs.getD j 0)) → ps_Fr t0 S S' (fun b => b = a) → post (some q) (qs_wR S' 1 a (some q)) := by
    intro S' q g1 g2 g3 g4 g5 g6 g7 g8 g9
    exact hp _ q g1 g2 g3 g4 (if_pos ⟨rfl, rfl⟩) g5 g6 g7 g8 (g9.tr (ps_Fr.wR rfl))
  rcases h.2.2.2.2.1 with ⟨hd, hx⟩ | ⟨hdt, hd, hdk, hz2, hz, hle, hel⟩
  · subst hx
    have hv21 : v21 = 0 := e21
    have hv4 : v4 = 1 := e4
    rw [hv21, hv4]
    refine ⟨fun c => absurd c (by decide), fun _ => ⟨d, h.2.2.1, fun _ v25 e25 => ?_, fun c => absurd hd c⟩⟩
    have hv : v25 = 10 := by rw [e25]; exact if_neg (by decide)
    have hc : (10 : Int32).toNatClampNeg = 10 := by decide
    rw [hv, hc]
    refine ⟨⟨⟨by omega, by simp at hms; omega⟩, by decide, by decide⟩, fun q hq hqt => ⟨q, rfl, ?_⟩⟩
    exact fin _ q hq hqt qs_nAN qs_nAM (by show 0 < (if q = q then 10 else _); rw [if_pos rfl]; decide) (by show 2 ≤ (if q = q then 10 else _); rw [if_pos rfl]; decide) (by show (if q = q then 10 else _) ≤ 40000; rw [if_pos rfl]; decide) (fun j hj => absurd hj (Nat.not_lt_zero _)) (ps_Fr.nA hq hqt)
  · have hn : xs.length = qs_Z S d := by rw [hfull, qs_len, if_neg hdt]
    refine ⟨fun _ v1 e1 v2 e2 => ?_, fun c => absurd (by rw [e21]; exact nI_lt (a := 0) (by omega) (by omega)) c⟩
    have hv1 : v1 = 1 := by
      rw [e1, e4, e21, pk_sub (by omega), Nat.add_sub_cancel_left]
      rfl
    have hv2 : v2 = nI (xs.length / 2) := by
      rw [e2, e21]
      have k := pk_shrN (n := xs.length) (by omega) ((1 : Int32) &&& 31) 1 (by decide)
      rw [Nat.pow_one] at k
      exact k
    rw [hv1, hv2, e21]
    refine pl_newLength (by omega) (by omega) (by omega) ⟨⟨h.1, h.2.1⟩, d, h.2.2.1, mc, ms, ⟨by omega, by omega⟩, ?_⟩
    refine pl_copy hd hdk hn (Nat.le_add_right _ _) (by omega) hmc (by omega) (fun i hi y hy => ?_) hdt (fun q hq hqt => ⟨q, rfl, ⟨show a ∈ qs_L S ++ [q] from List.mem_append_left _ h.1, ?_⟩, ⟨q, rfl, ?_⟩⟩)
    · have e := (hel i hi).symm.trans hy
      have e' := Option.some.inj e
      rw [← e']
      refine h.2.2.2.2.2 _ ?_
      rw [List.getD_eq_getElem?_getD, List.getElem?_eq_getElem hi]
      exact List.getElem_mem hi
    · exact qs_nAK (n := xs.length + xs.length / 2) hq h.1 h.2.1
    · have hZ : qs_Z (qs_cO (qs_nA S q 10 (xs.length + xs.length / 2)) d q 0 0 xs.length) q = xs.length + xs.length / 2 := if_pos rfl
      have hqd : ¬ d = q := fun z => hq (z ▸ hd)
      refine fin _ q hq hqt (qs_nAN (ci := 10) (n := xs.length + xs.length / 2)) (qs_nAM (ci := 10) (n := xs.length + xs.length / 2)) (by rw [hZ]; omega) (by rw [hZ]; omega) (by rw [hZ]; omega) (fun j hj => ?_) (ps_Fr.grow hq hqt)
      show (if q = q then va_cpy (qs_O (qs_nA S q 10 (xs.length + xs.length / 2)) d) (qs_O (qs_nA S q 10 (xs.length + xs.length / 2)) q) 0 0 xs.length else _) j = _
      rw [if_pos rfl, pk_cpy_in (Nat.zero_le _) (by omega)]
      show (if d = q then none else qs_O S d (0 + (j - 0))) = _
      rw [if_neg hqd, Nat.zero_add, Nat.sub_zero]
      exact hel j hj
/-- add: the list grows by one at its end -/
theorem pl_add {t0 m9 mc ms : Nat} {S : qs_S} {a d q : Nat} {xs : List Nat} {post : Int32 → qs_S → Prop} (h : ps_Ls t0 S a d xs) (ht : t0 ∉ qs_L S) (hlen : xs.length ≤ 400) (hmc : 1 ≤ mc) (hms : 10 + xs.length + xs.length / 2 ≤ ms) (hq : q ∈ qs_L S) (hq8 : qs_K S q < 8)
    (hp : ∀ S' d', ps_Ls t0 S' a d' (xs ++ [q]) → (d' = d ∨ d' ∉ qs_L S) → d' ≠ t0 → ps_Fr t0 S S' (fun b => b = a ∨ b = d) → post 1 S') : wp_Jx4a65c_add_9ea2d t0 m9 mc ms post S a q := by
  refine ⟨⟨h.1, h.2.1⟩, fun v3 e3 v4 e4 => ?_⟩
  generalize hS1 : qs_wI S 0 a v4 = S1
  have h1 : ps_Ls t0 S1 a d xs := by rw [← hS1]; exact h.wI0
  have f1 : ps_Fr t0 S S1 (fun b => b = a ∨ b = d) := by rw [← hS1]; exact ps_Fr.wI (Or.inl rfl)
  have ht1 := f1.2.2 ht
  have hq1 := (f1.1 q hq).1
  have hq81 : qs_K S1 q < 8 := by rw [(f1.1 q hq).2]; exact hq8
  have hL1 : ∀ z, z ∉ qs_L S1 → z ∉ qs_L S := fun z hz hz' => hz (f1.1 z hz').1
  have had : a ≠ d := by
    intro z
    rcases h1.2.2.2.2.1 with ⟨e, -⟩ | ⟨-, -, e, -⟩
    · exact ht1 (e ▸ z ▸ h1.1)
    · have := h1.2.1
      rw [z, e] at this
      exact absurd this (by decide)
  refine ⟨d, h1.2.2.1, fun v6 e6 => ⟨mc, ms, ⟨by omega, by omega⟩, ?_⟩⟩
  rw [e6, h1.2.2.2.1]
  refine ⟨?_, fun v10 e10 => ⟨fun c => ?_, fun c => ⟨⟨h1.1, h1.2.1⟩, mc, ms, ⟨by omega, by omega⟩, ?_⟩⟩⟩
  · rcases h1.2.2.2.2.1 with ⟨z, -⟩ | ⟨-, z, k, -⟩
    · exact Or.inl z
    · exact Or.inr ⟨z, k⟩
  · rcases h1.2.2.2.2.1 with ⟨hd, hx⟩ | ⟨hdt, hd, hdk, hz2, hz, hle, hel⟩
    · refine absurd ?_ c
      rw [e10, qs_len, if_pos hd, hx]
      rfl
    · have hlt : xs.length < qs_Z S1 d := by
        rcases Nat.lt_or_ge xs.length (qs_Z S1 d) with z | z
        · exact z
        · refine absurd ?_ c
          rw [e10, qs_len, if_neg hdt, Nat.le_antisymm hle z]
      exact pl_b11 h1.1 h1.2.1 h1.2.2.1 hdt hd hdk hlt hz2 hz hel h1.2.2.2.2.2 hq1 hq81 (fun S' g1 g2 => hp S' d g1 (Or.inl rfl) hdt (f1.tr g2))
  · have hfull : xs.length = qs_len t0 S1 d := by
      rw [e10] at c
      have hb := h1.len
      have hb2 : qs_len t0 S1 d ≤ 40000 := by
        rcases h1.2.2.2.2.1 with ⟨z, -⟩ | ⟨z, -, -, -, z2, -⟩
        · rw [qs_len, if_pos z]; exact Nat.zero_le _
        · rw [qs_len, if_neg z]; exact z2
      exact (nI_eq (by omega) (by omega)).mp c
    refine pl_grow h1 hfull hlen hmc hms had (fun S' q' g1 g2 g3 g4 g5 g6 g7 g8 g9 g10 => ⟨q', rfl, ?_⟩)
    have hd' : q' ≠ a := fun z => g1 (z ▸ h1.1)
    refine pl_b11 (g10.1 a h1.1).1 ((g10.1 a h1.1).2.trans h1.2.1) g5 g2 g3 g4 g6 g7 g8 g9 (fun y hy => ?_) (g10.1 q hq1).1 (by rw [(g10.1 q hq1).2]; exact hq81) (fun S'' k1 k2 => hp S'' q' k1 (Or.inr (hL1 _ g1)) g2 (f1.tr ?_))
    · obtain ⟨y1, y2⟩ := h1.2.2.2.2.2 y hy
      exact ⟨(g10.1 y y1).1, by rw [(g10.1 y y1).2]; exact y2⟩
    · refine ⟨fun b hb => ⟨(k2.1 b (g10.1 b hb).1).1, (k2.1 b (g10.1 b hb).1).2.trans (g10.1 b hb).2⟩, fun b hb hn => ?_, fun z => k2.2.2 (g10.2.2 z)⟩
      refine (g10.2.1 b hb (fun z => hn (Or.inl z))).tr (k2.2.1 b (g10.1 b hb).1 (fun z => ?_))
      rcases z with z | z
      · exact hn (Or.inl z)
      · exact g1 (z ▸ hb)
theorem pl_b34 {t0 m9 : Nat} {S : qs_S} {a d n : Nat} {ys : List Nat} {post : qs_S → Prop} (ha : a ∈ qs_L S) (hk : qs_K S a = 0) (hr : qs_R S 1 a = some d) (hdt : d ≠ t0) (hd : d ∈ qs_L S) (hdk : qs_K S d = 10) (hlt : n < qs_Z S d) (hz2 : 2 ≤ qs_Z S d) (hz : qs_Z S d ≤ 40000) (hn : ys.length = n) (hel : ∀ j, j < n → qs_O S d j = some (ys.getD j 0)) (hy : ∀ y, y ∈ ys → y ∈ qs_L S ∧ qs_K S y < 8)
    (hp : ∀ S', ps_Ls t0 S' a d ys → ps_Fr t0 S S' (fun b => b = a ∨ b = d) → post S') : wp_Jx4a65c_fastRemove_b59b0_b34 t0 m9 post S a d (nI n) := by
  refine ⟨⟨ha, hk⟩, ⟨hd, hdk⟩, vp_in_nI hlt (Nat.lt_of_le_of_lt hz (by decide)), ?_⟩
  rw [nI_clamp (by omega)]
  refine hp _ ⟨ha, hk, hr, ?_, Or.inr ⟨hdt, hd, hdk, hz2, hz, by rw [hn]; exact Nat.le_of_lt hlt, fun j hj => ?_⟩, hy⟩ ((ps_Fr.wI (Or.inl rfl)).tr (ps_Fr.wO (Or.inr rfl)))
  · show (if 2 = 2 ∧ a = a then nI n else qs_I S 2 a) = nI ys.length
    rw [if_pos ⟨rfl, rfl⟩, hn]
  · show (if d = d ∧ j = n then none else qs_O S d j) = some (ys.getD j 0)
    rw [if_neg (fun z => by omega)]
    exact hel j (by omega)
theorem ps_getD_erase {xs : List Nat} {i j : Nat} : (xs.eraseIdx i).getD j 0 = if j < i then xs.getD j 0 else xs.getD (j + 1) 0 := by
  rw [List.getD_eq_getElem?_getD, List.getElem?_eraseIdx, List.getD_eq_getElem?_getD, List.getD_eq_getElem?_getD]
  by_cases h : j < i
  · rw [if_pos h, if_pos h]
  · rw [if_neg h, if_neg h]
/-- remove(i): the element, and the list without it -/
theorem pl_remove {t0 m9 : Nat} {S : qs_S} {a d i : Nat} {xs : List Nat} {post : Option Nat → qs_S → Prop} (h : ps_Ls t0 S a d xs) (hi : i < xs.length) (had : a ≠ d)
    (hp : ∀ S', ps_Ls t0 S' a d (xs.eraseIdx i) → ps_Fr t0 S S' (fun b => b = a ∨ b = d) → post (some (xs.getD i 0)) S') : wp_Jx4a65c_remove_915e3 t0 m9 post S a (nI i) := by
  have hb := h.len
  obtain ⟨h1, h2, h3, h4, h5, h6⟩ := id h
  obtain ⟨hdt, hd, hdk, hz2, hz, hle, hel⟩ : d ≠ t0 ∧ d ∈ qs_L S ∧ qs_K S d = 10 ∧ 2 ≤ qs_Z S d ∧ qs_Z S d ≤ 40000 ∧ xs.length ≤ qs_Z S d ∧ ∀ j, j < xs.length → qs_O S d j = some (xs.getD j 0) := by
    rcases h5 with ⟨-, z⟩ | z
    · rw [z] at hi; exact absurd hi (Nat.not_lt_zero _)
    · exact z
  refine ⟨⟨h1, h2⟩, fun v3 e3 => ?_⟩
  rw [e3, h4]
  refine pl_check hi (by omega) ⟨⟨h1, h2⟩, d, h3, ⟨hd, hdk⟩, vp_in_nI (by omega) (by omega), xs.getD i 0, by rw [nI_clamp (by omega)]; exact hel i hi, ⟨h1, h2⟩, fun v8 e8 v9 e9 v10 e10 v11 e11 => ?_⟩
  generalize hS1 : qs_wI S 0 a v9 = S1 at e10
  have f1 : ps_Fr t0 S S1 (fun b => b = a ∨ b = d) := by rw [← hS1]; exact ps_Fr.wI (Or.inl rfl)
  have g := show ps_Ls t0 S1 a d xs by rw [← hS1]; exact h.wI0
  obtain ⟨k1, k2, k3, k4, -, k6⟩ := id g
  have sd := f1
  have hd1 : d ∈ qs_L S1 := by rw [← hS1]; exact hd
  have hdk1 : qs_K S1 d = 10 := by rw [← hS1]; exact hdk
  have hZ1 : qs_Z S1 d = qs_Z S d := by rw [← hS1]; rfl
  have hO1 : ∀ j, qs_O S1 d j = qs_O S d j := fun j => by rw [← hS1]; rfl
  have e11' : v11 = nI (xs.length - 1) := by
    rw [e11, e10, k4]
    exact pk_sub (b := 1) (by omega)
  have hlen : (xs.eraseIdx i).length = xs.length - 1 := List.length_eraseIdx_of_lt hi
  have hmem : ∀ y, y ∈ xs.eraseIdx i → y ∈ qs_L S1 ∧ qs_K S1 y < 8 := fun y hy => k6 y (List.mem_of_mem_eraseIdx hy)
  rw [e11']
  refine ⟨fun c => ?_, fun c v13 e13 v14 e14 => ?_⟩
  · have hil : xs.length - 1 ≤ i := (nI_leI (by omega) (by omega)).mp c
    refine pl_b34 k1 k2 k3 hdt hd1 hdk1 (by rw [hZ1]; omega) (by rw [hZ1]; exact hz2) (by rw [hZ1]; exact hz) hlen (fun j hj => ?_) hmem (fun S' g1 g2 => hp S' g1 (f1.tr g2))
    rw [hO1, ps_getD_erase, if_pos (by omega)]
    exact hel j (by omega)
  · have hil : i < xs.length - 1 := by
      rcases Nat.lt_or_ge i (xs.length - 1) with z | z
      · exact z
      · exact absurd (nI_le z (by omega)) c
    have h13 : v13 = nI (i + 1) := by rw [e13]; exact nI_1 i
    have h14 : v14 = nI (xs.length - 1 - i) := by rw [e14]; exact pk_sub (by omega)
    rw [h13, h14, nI_clamp (n := i + 1) (by omega), nI_clamp (n := xs.length - 1 - i) (by omega), nI_clamp (n := i) (by omega)]
    refine ⟨⟨hd1, hdk1⟩, ⟨nI_pos (by omega), nI_pos (by omega), nI_pos (by omega), by rw [hZ1]; omega, by rw [hZ1]; omega, fun j hj y hy => ?_⟩, ?_⟩
    · rw [hO1, hel _ (by omega)] at hy
      rw [← Option.some.inj hy]
      refine k6 _ ?_
      rw [List.getD_eq_getElem?_getD, List.getElem?_eq_getElem (by omega)]
      exact List.getElem_mem _
    · refine pl_b34 (S := qs_cO S1 d d (i + 1) i (xs.length - 1 - i)) k1 k2 k3 hdt hd1 hdk1 (by show _ < qs_Z S1 d; rw [hZ1]; omega) (by show _ ≤ qs_Z S1 d; rw [hZ1]; exact hz2) (by show qs_Z S1 d ≤ _; rw [hZ1]; exact hz) hlen (fun j hj => ?_) hmem (fun S' g1 g2 => hp S' g1 (f1.tr ((ps_Fr.cO (Or.inr rfl)).tr g2)))
      show (if d = d then va_cpy (qs_O S1 d) (qs_O S1 d) (i + 1) i (xs.length - 1 - i) else _) j = _
      rw [if_pos rfl, ps_getD_erase]
      by_cases hj' : j < i
      · rw [if_pos hj', pk_cpy_out (Or.inl hj'), hO1]
        exact hel j (by omega)
      · rw [if_neg hj', pk_cpy_in (by omega) (by omega), hO1, show i + 1 + (j - i) = j + 1 by omega]
        exact hel _ (by omega)
theorem pl_clearL {t0 m9 : Nat} {a d n : Nat} {post : qs_S → Prop} (hn : n ≤ 40000) : ∀ (k i : Nat) (S : qs_S), i + k = n → (0 < k → d ∈ qs_L S ∧ qs_K S d = 10 ∧ n ≤ qs_Z S d ∧ qs_Z S d ≤ 40000) → (∀ S', ps_Fr t0 S S' (fun b => b = d) → (∀ b, qs_Z S' b = qs_Z S b) → (∀ j, qs_I S' j a = qs_I S j a) → (∀ j, qs_R S' j a = qs_R S j a) → post S') → wp_Jx4a65c_clear_da8c8_b27 t0 m9 post (k + 1) S d (nI n) (nI i) := by
  intro k
  induction k with
  | zero =>
    intro i S hi hd hp
    exact ⟨fun _ => hp S ps_Fr.rf (fun _ => rfl) (fun _ => rfl) (fun _ => rfl), fun c => absurd (nI_le (by omega) (by omega)) c⟩
  | succ k ih =>
    intro i S hi hd hp
    obtain ⟨d1, d2, d3, d4⟩ := hd (by omega)
    refine ⟨fun c => absurd c (nI_ge (by omega) (by omega)), fun _ => ⟨⟨d1, d2⟩, vp_in_nI (by omega) (by omega), fun v5 e5 => ?_⟩⟩
    rw [e5, nI_1, nI_clamp (by omega)]
    exact ih (i + 1) _ (by omega) (fun _ => ⟨d1, d2, d3, d4⟩) (fun S' g1 g2 g3 g4 => hp S' ((ps_Fr.wO (P := fun b => b = d) rfl).tr g1) g2 g3 g4)
/-- clear: the empty list -/
theorem pl_clear {t0 m9 : Nat} {S : qs_S} {a d : Nat} {xs : List Nat} {post : qs_S → Prop} (h : ps_Ls t0 S a d xs) (had : a ≠ d)
    (hp : ∀ S', ps_Ls t0 S' a d [] → ps_Fr t0 S S' (fun b => b = a ∨ b = d) → post S') : wp_Jx4a65c_clear_da8c8 t0 m9 post S a := by
  have hb := h.len
  obtain ⟨h1, h2, h3, h4, h5, h6⟩ := id h
  refine ⟨⟨h1, h2⟩, fun v8 e8 v9 e9 => ⟨d, h3, fun v11 e11 => ⟨xs.length + 1, ?_⟩⟩⟩
  have e : v11 = nI xs.length := by rw [e11]; exact h.wI0.2.2.2.1
  rw [e]
  refine pl_clearL (a := a) hb xs.length 0 _ (Nat.zero_add _) (fun hk => ?_) (fun S' g1 g2 g3 g4 => ?_)
  · rcases h5 with ⟨-, z⟩ | ⟨-, z1, z2, -, z4, z3, -⟩
    · rw [z] at hk; exact absurd hk (Nat.lt_irrefl _)
    · exact ⟨z1, z2, z3, z4⟩
  · have f1 : ps_Fr t0 S (qs_wI (qs_wI S 0 a v9) 2 a 0) (fun b => b = a ∨ b = d) := (ps_Fr.wI (Or.inl rfl)).tr (ps_Fr.wI (Or.inl rfl))
    have f2 : ps_Fr t0 (qs_wI (qs_wI S 0 a v9) 2 a 0) S' (fun b => b = a ∨ b = d) := g1.wk (fun _ _ z => Or.inr z)
    have f := f1.tr f2
    refine hp S' ⟨(f.1 a h1).1, (f.1 a h1).2.trans h2, ?_, ?_, ?_, fun y hy => absurd hy List.not_mem_nil⟩ f
    · rw [g4]; exact h3
    · rw [g3]
      show (if 2 = 2 ∧ a = a then (0 : Int32) else _) = nI 0
      rw [if_pos ⟨rfl, rfl⟩]
      rfl
    · rcases h5 with ⟨z, -⟩ | ⟨z0, z1, z2, z3, z4, -, -⟩
      · exact Or.inl ⟨z, rfl⟩
      · have hdZ : qs_Z S' d = qs_Z S d := g2 d
        exact Or.inr ⟨z0, (f.1 d z1).1, (f.1 d z1).2.trans z2, by rw [hdZ]; exact z3, by rw [hdZ]; exact z4, Nat.zero_le _, fun j hj => absurd hj (Nat.not_lt_zero _)⟩

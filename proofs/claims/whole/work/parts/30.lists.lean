/-! ===== plain facts: the pool's cells from state to state ===== -/
/-- the cell b is in both, with the same fields -/
def ps_Sm (S S' : qs_S) (b : Nat) : Prop := (∀ k, qs_I S' k b = qs_I S k b) ∧ (∀ k, qs_R S' k b = qs_R S k b) ∧ qs_Z S' b = qs_Z S b ∧ (∀ i, qs_A S' b i = qs_A S b i) ∧ (∀ i, qs_O S' b i = qs_O S b i)
/-- no cell goes, no kind changes; what isn't P's stays as it is -/
def ps_Fr (t0 : Nat) (S S' : qs_S) (P : Nat → Prop) : Prop := (∀ b, b ∈ qs_L S → b ∈ qs_L S' ∧ qs_K S' b = qs_K S b) ∧ (∀ b, b ∈ qs_L S → ¬ P b → ps_Sm S S' b) ∧ (t0 ∉ qs_L S → t0 ∉ qs_L S')
theorem ps_Sm.rf {S : qs_S} {b : Nat} : ps_Sm S S b := ⟨fun _ => rfl, fun _ => rfl, rfl, fun _ => rfl, fun _ => rfl⟩
theorem ps_Sm.tr {S S1 S2 : qs_S} {b : Nat} (h : ps_Sm S S1 b) (k : ps_Sm S1 S2 b) : ps_Sm S S2 b := ⟨fun j => (k.1 j).trans (h.1 j), fun j => (k.2.1 j).trans (h.2.1 j), k.2.2.1.trans h.2.2.1, fun j => (k.2.2.2.1 j).trans (h.2.2.2.1 j), fun j => (k.2.2.2.2 j).trans (h.2.2.2.2 j)⟩
theorem ps_Fr.rf {t0 : Nat} {S : qs_S} {P : Nat → Prop} : ps_Fr t0 S S P := ⟨fun _ h => ⟨h, rfl⟩, fun _ _ _ => ps_Sm.rf, fun h => h⟩
theorem ps_Fr.tr {t0 : Nat} {S S1 S2 : qs_S} {P : Nat → Prop} (h : ps_Fr t0 S S1 P) (k : ps_Fr t0 S1 S2 P) : ps_Fr t0 S S2 P :=
  ⟨fun b hb => ⟨(k.1 b (h.1 b hb).1).1, (k.1 b (h.1 b hb).1).2.trans (h.1 b hb).2⟩, fun b hb hp => (h.2.1 b hb hp).tr (k.2.1 b (h.1 b hb).1 hp), fun ht => k.2.2 (h.2.2 ht)⟩
theorem ps_Fr.wk {t0 : Nat} {S S' : qs_S} {P Q : Nat → Prop} (h : ps_Fr t0 S S' P) (hPQ : ∀ b, b ∈ qs_L S → P b → Q b) : ps_Fr t0 S S' Q := ⟨h.1, fun b hb hq => h.2.1 b hb (fun z => hq (hPQ b hb z)), h.2.2⟩
theorem ps_Fr.wI {t0 : Nat} {S : qs_S} {P : Nat → Prop} {k a : Nat} {v : Int32} (hP : P a) : ps_Fr t0 S (qs_wI S k a v) P :=
  ⟨fun _ h => ⟨h, rfl⟩, fun b _ hp => ⟨fun j => if_neg (fun z => hp (z.2 ▸ hP)), fun _ => rfl, rfl, fun _ => rfl, fun _ => rfl⟩, fun h => h⟩
theorem ps_Fr.wR {t0 : Nat} {S : qs_S} {P : Nat → Prop} {k a : Nat} {v : Option Nat} (hP : P a) : ps_Fr t0 S (qs_wR S k a v) P :=
  ⟨fun _ h => ⟨h, rfl⟩, fun b _ hp => ⟨fun _ => rfl, fun j => if_neg (fun z => hp (z.2 ▸ hP)), rfl, fun _ => rfl, fun _ => rfl⟩, fun h => h⟩
theorem ps_Fr.wA {t0 : Nat} {S : qs_S} {P : Nat → Prop} {a i : Nat} {v : Int32} (hP : P a) : ps_Fr t0 S (qs_wA S a i v) P :=
  ⟨fun _ h => ⟨h, rfl⟩, fun b _ hp => ⟨fun _ => rfl, fun _ => rfl, rfl, fun j => if_neg (fun z => hp (z.1 ▸ hP)), fun _ => rfl⟩, fun h => h⟩
theorem ps_Fr.wO {t0 : Nat} {S : qs_S} {P : Nat → Prop} {a i : Nat} {v : Option Nat} (hP : P a) : ps_Fr t0 S (qs_wO S a i v) P :=
  ⟨fun _ h => ⟨h, rfl⟩, fun b _ hp => ⟨fun _ => rfl, fun _ => rfl, rfl, fun _ => rfl, fun j => if_neg (fun z => hp (z.1 ▸ hP))⟩, fun h => h⟩
theorem ps_Fr.cO {t0 : Nat} {S : qs_S} {P : Nat → Prop} {b0 a sp dp n : Nat} (hP : P a) : ps_Fr t0 S (qs_cO S b0 a sp dp n) P :=
  ⟨fun _ h => ⟨h, rfl⟩, fun b _ hp => ⟨fun _ => rfl, fun _ => rfl, rfl, fun _ => rfl, fun j => congrFun (show qs_O (qs_cO S b0 a sp dp n) b = qs_O S b from if_neg (fun z => hp (z ▸ hP))) j⟩, fun h => h⟩
theorem ps_Fr.nA {t0 : Nat} {S : qs_S} {P : Nat → Prop} {q ci n : Nat} (hq : q ∉ qs_L S) (ht : q ≠ t0) : ps_Fr t0 S (qs_nA S q ci n) P := by
  refine ⟨fun b h => ⟨qs_nAL h, qs_nAE hq h⟩, fun b h _ => ?_, fun h z => ?_⟩
  · have hb : ¬ b = q := fun z => hq (z ▸ h)
    exact ⟨fun _ => rfl, fun _ => rfl, if_neg hb, fun _ => if_neg hb, fun _ => if_neg hb⟩
  · rcases List.mem_append.mp z with z | z
    · exact h z
    · exact ht (List.mem_singleton.mp z).symm
theorem ps_Fr.nw {t0 : Nat} {S : qs_S} {P : Nat → Prop} {q ci : Nat} (hq : q ∉ qs_L S) (ht : q ≠ t0) : ps_Fr t0 S (qs_nw S q ci) P := by
  refine ⟨fun b h => ⟨qs_nwL h, qs_nwE hq h⟩, fun b h _ => ?_, fun h z => ?_⟩
  · have hb : ¬ b = q := fun z => hq (z ▸ h)
    exact ⟨fun _ => if_neg hb, fun _ => if_neg hb, rfl, fun _ => rfl, fun _ => rfl⟩
  · rcases List.mem_append.mp z with z | z
    · exact h z
    · exact ht (List.mem_singleton.mp z).symm
/-! ===== an ArrayList at a, its row of elements at d, holds xs ===== -/
def ps_Ls (t0 : Nat) (S : qs_S) (a d : Nat) (xs : List Nat) : Prop :=
  a ∈ qs_L S ∧ qs_K S a = 0 ∧ qs_R S 1 a = some d ∧ qs_I S 2 a = nI xs.length ∧
  ((d = t0 ∧ xs = []) ∨ (d ≠ t0 ∧ d ∈ qs_L S ∧ qs_K S d = 10 ∧ 2 ≤ qs_Z S d ∧ qs_Z S d ≤ 40000 ∧ xs.length ≤ qs_Z S d ∧ ∀ j, j < xs.length → qs_O S d j = some (xs.getD j 0))) ∧ ∀ y, y ∈ xs → y ∈ qs_L S ∧ qs_K S y < 8
theorem ps_Ls.len {t0 : Nat} {S : qs_S} {a d : Nat} {xs : List Nat} (h : ps_Ls t0 S a d xs) : xs.length ≤ 40000 := by
  rcases h.2.2.2.2.1 with ⟨-, h⟩ | ⟨-, -, -, -, h1, h2, -⟩
  · rw [h]; exact Nat.zero_le _
  · exact Nat.le_trans h2 h1
theorem ps_Ls.fr {t0 : Nat} {S S' : qs_S} {a d : Nat} {xs : List Nat} {P : Nat → Prop} (h : ps_Ls t0 S a d xs) (f : ps_Fr t0 S S' P) (ha : ¬ P a) (hd : d ≠ t0 → ¬ P d) : ps_Ls t0 S' a d xs := by
  obtain ⟨h1, h2, h3, h4, h5, h6⟩ := h
  have s := f.2.1 a h1 ha
  refine ⟨(f.1 a h1).1, (f.1 a h1).2.trans h2, (s.2.1 1).trans h3, (s.1 2).trans h4, ?_, fun y hy => ⟨(f.1 y (h6 y hy).1).1, by rw [(f.1 y (h6 y hy).1).2]; exact (h6 y hy).2⟩⟩
  rcases h5 with h5 | ⟨e1, e2, e3, e4, e5, e6, e7⟩
  · exact Or.inl h5
  · have sd := f.2.1 d e2 (hd e1)
    exact Or.inr ⟨e1, (f.1 d e2).1, (f.1 d e2).2.trans e3, by rw [sd.2.2.1]; exact e4, by rw [sd.2.2.1]; exact e5, by rw [sd.2.2.1]; exact e6, fun j hj => (sd.2.2.2.2 j).trans (e7 j hj)⟩
theorem pl_size {t0 m9 : Nat} {S : qs_S} {a d : Nat} {xs : List Nat} {post : Int32 → qs_S → Prop} (h : ps_Ls t0 S a d xs) (hp : post (nI xs.length) S) : wp_Jx4a65c_size_8abf5 t0 m9 post S a :=
  ⟨⟨h.1, h.2.1⟩, fun v e => by rw [e, h.2.2.2.1]; exact hp⟩
theorem pl_isEmpty {t0 m9 : Nat} {S : qs_S} {a d : Nat} {xs : List Nat} {post : Int32 → qs_S → Prop} (h : ps_Ls t0 S a d xs) (h0 : xs = [] → post 1 S) (h1 : xs ≠ [] → post 0 S) : wp_Jx4a65c_isEmpty_aae02 t0 m9 post S a := by
  have hb := h.len
  refine ⟨⟨h.1, h.2.1⟩, fun v e => ⟨fun c => ⟨Or.inl rfl, h1 (fun z => c ?_)⟩, fun c => ⟨Or.inr rfl, h0 ?_⟩⟩⟩
  · rw [e, h.2.2.2.1, z]; rfl
  · rw [e, h.2.2.2.1] at c
    have : xs.length = 0 := (nI_eq (b := 0) (by omega) (by decide)).mp c
    exact List.length_eq_zero_iff.mp this
theorem pl_check {t0 m9 : Nat} {S : qs_S} {i n : Nat} {post : Int32 → qs_S → Prop} (hi : i < n) (hn : n < 2 ^ 31) (hp : post (nI i) S) : wp_J15_checkIndex_7cf53 t0 m9 post S (nI i) (nI n) :=
  ⟨fun c => absurd c (nI_pos (by omega)), fun _ => ⟨fun _ => hp, fun c => absurd (nI_lt hi hn) c⟩⟩
theorem ps_Ls.at {t0 : Nat} {S : qs_S} {a d i : Nat} {xs : List Nat} (h : ps_Ls t0 S a d xs) (hi : i < xs.length) : d ≠ t0 ∧ d ∈ qs_L S ∧ qs_K S d = 10 ∧ i < qs_Z S d ∧ qs_O S d i = some (xs.getD i 0) := by
  rcases h.2.2.2.2.1 with ⟨-, z⟩ | ⟨e1, e2, e3, e4, e5, e6, e7⟩
  · rw [z] at hi; exact absurd hi (Nat.not_lt_zero _)
  · exact ⟨e1, e2, e3, by omega, e7 i hi⟩
theorem pl_get {t0 m9 : Nat} {S : qs_S} {a d i : Nat} {xs : List Nat} {post : Option Nat → qs_S → Prop} (h : ps_Ls t0 S a d xs) (hi : i < xs.length) (hp : post (some (xs.getD i 0)) S) : wp_Jx4a65c_get_915e3 t0 m9 post S a (nI i) := by
  have hb := h.len
  obtain ⟨-, e2, e3, e4, e5⟩ := h.at hi
  have hZ : qs_Z S d ≤ 40000 := by
    rcases h.2.2.2.2.1 with ⟨-, z⟩ | ⟨-, -, -, -, z, -⟩
    · rw [z] at hi; exact absurd hi (Nat.not_lt_zero _)
    · exact z
  refine ⟨⟨h.1, h.2.1⟩, fun v e => ?_⟩
  rw [e, h.2.2.2.1]
  refine pl_check hi (by omega) ⟨⟨h.1, h.2.1⟩, ⟨h.1, h.2.1⟩, d, h.2.2.1, ⟨e2, e3⟩, vp_in_nI e4 (by omega), xs.getD i 0, ?_, _, rfl, hp⟩
  rw [nI_clamp (by omega)]
  exact e5

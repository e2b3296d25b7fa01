/-! ===== the class's state, by numbers: ti T f k i the int field k of the i-th object of sort f; tr T f k i its reference field (0: none, j + 1: the j-th of its sort); tl T j the j-th list.
sorts: 0 ships, 1 boxes, 2 messages, 3 workers, 6 the object itself (4: lists). lists: 0 ships, 1 boxes, 2 messages, 3 log, 4 cranes, 5 trucks, 6 + w waiting, 14 + w remembered ===== -/
abbrev tt_T : Type := (Nat → Nat → Nat → Int32) × (Nat → Nat → Nat → Nat) × (Nat → List Nat)
def ti (T : tt_T) (f k i : Nat) : Int32 := T.1 f k i
def tr (T : tt_T) (f k i : Nat) : Nat := T.2.1 f k i
def tl (T : tt_T) (j : Nat) : List Nat := T.2.2 j
def tt_I (T : tt_T) (f k i : Nat) (v : Int32) : tt_T := (fun f' k' i' => if f' = f ∧ k' = k ∧ i' = i then v else ti T f' k' i', tr T, tl T)
def tt_R (T : tt_T) (f k i : Nat) (v : Nat) : tt_T := (ti T, fun f' k' i' => if f' = f ∧ k' = k ∧ i' = i then v else tr T f' k' i', tl T)
def tt_L (T : tt_T) (j : Nat) (l : List Nat) : tt_T := (ti T, tr T, fun j' => if j' = j then l else tl T j')
/-- the sort of a list's elements -/
def tt_lc (j : Nat) : Nat := if j = 0 then 0 else if j = 1 then 1 else if j = 4 ∨ j = 5 then 3 else 2
/-- which objects there are -/
def tt_v (T : tt_T) (f i : Nat) : Prop := (f = 0 ∧ i < (tl T 0).length) ∨ (f = 1 ∧ i < (tl T 1).length) ∨ (f = 2 ∧ i < (tl T 2).length) ∨ (f = 3 ∧ i < 8) ∨ (f = 4 ∧ i < 22) ∨ (f = 6 ∧ i = 0)
def tt_k (f i : Nat) : Nat := if f = 0 then 4 else if f = 1 then 1 else if f = 2 then 3 else if f = 3 then (if i < 4 then 2 else 5) else if f = 4 then 0 else 6
/-- how many fields -/
def tt_n (f : Nat) : Nat := if f = 0 then 3 else if f = 2 then 7 else if f = 4 then 0 else 8
/-- is the field a reference -/
def tt_b (f k i : Nat) : Bool := if f = 1 then k == 0 else if f = 2 then k == 2 else if f = 3 then k == 1 || k == 2 || k == 6 || (k == 7 && decide (4 ≤ i)) else if f = 6 then decide (k < 6) else false
/-- what a reference field points to -/
def tt_o (h : Nat → Nat) (n : Nat) : Option Nat := match n with
  | 0 => none
  | j + 1 => some (h j)
def tt_e (G : Nat → Nat → Nat) (T : tt_T) (f k i : Nat) : Option Nat := if f = 6 then some (G 4 k) else if f = 3 ∧ k = 1 then some (G 4 (6 + i)) else if f = 3 ∧ k = 2 then some (G 4 (14 + i)) else if f = 1 then tt_o (G 0) (tr T f k i) else if f = 2 then tt_o (G 1) (tr T f k i) else tt_o (G 2) (tr T f k i)
def tx_R (t0 : Nat) (S : qs_S) (G : Nat → Nat → Nat) (T : tt_T) : Prop :=
  (∀ f i, tt_v T f i → G f i ∈ qs_L S ∧ qs_K S (G f i) = tt_k f i ∧ ∀ k, k < tt_n f → if tt_b f k i = true then qs_R S k (G f i) = tt_e G T f k i else qs_I S k (G f i) = ti T f k i) ∧
  (∀ f i f' i', tt_v T f i → tt_v T f' i' → G f i = G f' i' → f = f' ∧ i = i') ∧ t0 ∉ qs_L S ∧
  (∃ dd : Nat → Nat, (∀ j, j < 22 → ps_Ls t0 S (G 4 j) (dd j) ((tl T j).map (G (tt_lc j)))) ∧ ∀ i j, i < 22 → j < 22 → dd i = dd j → dd i ≠ t0 → i = j) ∧ ∀ j e, j < 22 → e ∈ tl T j → tt_v T (tt_lc j) e
/-- what isn't the class's stays -/
def tx_K (t0 : Nat) (S S' : qs_S) : Prop := ps_Fr t0 S S' (fun b => qs_K S b < 7 ∨ qs_K S b = 10)
theorem tx_K.rf {t0 : Nat} {S : qs_S} : tx_K t0 S S := ps_Fr.rf
theorem tx_K.tr {t0 : Nat} {S S1 S2 : qs_S} (h : tx_K t0 S S1) (k : tx_K t0 S1 S2) : tx_K t0 S S2 :=
  ⟨fun b hb => ⟨(k.1 b (h.1 b hb).1).1, (k.1 b (h.1 b hb).1).2.trans (h.1 b hb).2⟩, fun b hb hp => (h.2.1 b hb hp).tr (k.2.1 b (h.1 b hb).1 (by show ¬ (qs_K S1 b < 7 ∨ qs_K S1 b = 10); rw [(h.1 b hb).2]; exact hp)), fun ht => k.2.2 (h.2.2 ht)⟩
section TXR
variable {t0 m9 mc ms : Nat} {S : qs_S} {G : Nat → Nat → Nat} {T : tt_T}
theorem tx_R.L (h : tx_R t0 S G T) {f i : Nat} (v : tt_v T f i) : G f i ∈ qs_L S := (h.1 f i v).1
theorem tx_R.K (h : tx_R t0 S G T) {f i : Nat} (v : tt_v T f i) : qs_K S (G f i) = tt_k f i := (h.1 f i v).2.1
theorem tx_R.I (h : tx_R t0 S G T) {f i k : Nat} (v : tt_v T f i) (hk : k < tt_n f) (hb : tt_b f k i = false) : qs_I S k (G f i) = ti T f k i := by
  have z := (h.1 f i v).2.2 k hk
  rw [hb] at z
  exact z
theorem tx_R.R (h : tx_R t0 S G T) {f i k : Nat} (v : tt_v T f i) (hk : k < tt_n f) (hb : tt_b f k i = true) : qs_R S k (G f i) = tt_e G T f k i := by
  have z := (h.1 f i v).2.2 k hk
  rw [hb] at z
  exact z
theorem tt_k7 {f i : Nat} : tt_k f i < 7 := by
  unfold tt_k
  split <;> (try split) <;> (try split) <;> (try split) <;> (try split) <;> omega
theorem tt_k4 {j : Nat} : tt_k 4 j = 0 := rfl
theorem tt_kn4 {f i : Nat} (h : f ≠ 4) : tt_k f i ≠ 0 := by
  unfold tt_k
  split <;> (try split) <;> (try split) <;> (try split) <;> (try split) <;> omega
theorem tx_R.ne (h : tx_R t0 S G T) {f i f' i' : Nat} (v : tt_v T f i) (v' : tt_v T f' i') (hne : ¬ (f = f' ∧ i = i')) : G f i ≠ G f' i' := fun z => hne (h.2.1 f i f' i' v v' z)
/-- an int field is written -/
theorem tx_R.wI (h : tx_R t0 S G T) {f i k : Nat} {v : Int32} (hv : tt_v T f i) (hb : tt_b f k i = false) (hf : f ≠ 4) : tx_R t0 (qs_wI S k (G f i) v) G (tt_I T f k i v) ∧ tx_K t0 S (qs_wI S k (G f i) v) := by
  have hkf := h.K hv
  have h7 : qs_K S (G f i) < 7 := by rw [hkf]; exact tt_k7
  refine ⟨⟨fun f' i' hv' => ⟨h.L hv', h.K hv', fun k' hk' => ?_⟩, h.2.1, h.2.2.1, ?_, h.2.2.2.2⟩, ps_Fr.wI (Or.inl h7)⟩
  · have z := (h.1 f' i' hv').2.2 k' hk'
    cases hbb : tt_b f' k' i' with
    | true => rw [hbb] at z; exact z
    | false =>
      rw [hbb] at z
      show (if k' = k ∧ G f' i' = G f i then v else qs_I S k' (G f' i')) = (if f' = f ∧ k' = k ∧ i' = i then v else ti T f' k' i')
      by_cases c : f' = f ∧ k' = k ∧ i' = i
      · rw [if_pos c, if_pos ⟨c.2.1, by rw [c.1, c.2.2]⟩]
      · rw [if_neg c, if_neg (fun y => ?_)]
        · exact z
        · obtain ⟨y1, y2⟩ := h.2.1 f' i' f i hv' hv y.2
          exact c ⟨y1, y.1, y2⟩
  · obtain ⟨dd, d1, d2⟩ := h.2.2.2.1
    have fr : ps_Fr t0 S (qs_wI S k (G f i) v) (fun b => b = G f i) := ps_Fr.wI rfl
    refine ⟨dd, fun j hj => (d1 j hj).fr fr (fun z => ?_) (fun hd z => ?_), d2⟩
    · have : qs_K S (G f i) = 0 := by rw [← z]; exact (d1 j hj).2.1
      rw [hkf] at this
      exact tt_kn4 hf this
    · rcases (d1 j hj).2.2.2.2.1 with ⟨e, -⟩ | ⟨-, -, e, -⟩
      · exact hd e
      · rw [z] at e
        omega
/-- a reference field is written -/
theorem tx_R.wR (h : tx_R t0 S G T) {f i k : Nat} {v : Option Nat} {n : Nat} (hv : tt_v T f i) (hb : tt_b f k i = true) (hf : f ≠ 4) (he : tt_e G (tt_R T f k i n) f k i = v) (hfk : ¬ (f = 6) ∧ ¬ (f = 3 ∧ k = 1) ∧ ¬ (f = 3 ∧ k = 2)) : tx_R t0 (qs_wR S k (G f i) v) G (tt_R T f k i n) ∧ tx_K t0 S (qs_wR S k (G f i) v) := by
  have hkf := h.K hv
  have h7 : qs_K S (G f i) < 7 := by rw [hkf]; exact tt_k7
  refine ⟨⟨fun f' i' hv' => ⟨h.L hv', h.K hv', fun k' hk' => ?_⟩, h.2.1, h.2.2.1, ?_, h.2.2.2.2⟩, ps_Fr.wR (Or.inl h7)⟩
  · have z := (h.1 f' i' hv').2.2 k' hk'
    cases hbb : tt_b f' k' i' with
    | false => rw [hbb] at z; exact z
    | true =>
      rw [hbb] at z
      show (if k' = k ∧ G f' i' = G f i then v else qs_R S k' (G f' i')) = tt_e G (tt_R T f k i n) f' k' i'
      by_cases c : f' = f ∧ k' = k ∧ i' = i
      · obtain ⟨c1, c2, c3⟩ := c
        subst c1; subst c2; subst c3
        rw [if_pos ⟨rfl, rfl⟩, he]
      · rw [if_neg (fun y => ?_)]
        · refine Eq.trans z ?_
          have e : tr (tt_R T f k i n) f' k' i' = tr T f' k' i' := if_neg c
          unfold tt_e
          rw [e]
        · obtain ⟨y1, y2⟩ := h.2.1 f' i' f i hv' hv y.2
          exact c ⟨y1, y.1, y2⟩
  · obtain ⟨dd, d1, d2⟩ := h.2.2.2.1
    have fr : ps_Fr t0 S (qs_wR S k (G f i) v) (fun b => b = G f i) := ps_Fr.wR rfl
    refine ⟨dd, fun j hj => (d1 j hj).fr fr (fun z => ?_) (fun hd z => ?_), d2⟩
    · have : qs_K S (G f i) = 0 := by rw [← z]; exact (d1 j hj).2.1
      rw [hkf] at this
      exact tt_kn4 hf this
    · rcases (d1 j hj).2.2.2.2.1 with ⟨e, -⟩ | ⟨-, -, e, -⟩
      · exact hd e
      · rw [z] at e
        omega
/-- the lists: how long, an element, empty -/
theorem tx_R.Ls (h : tx_R t0 S G T) {j : Nat} (hj : j < 22) : ∃ d, ps_Ls t0 S (G 4 j) d ((tl T j).map (G (tt_lc j))) := by
  obtain ⟨dd, d1, -⟩ := h.2.2.2.1
  exact ⟨dd j, d1 j hj⟩
theorem tx_R.len (h : tx_R t0 S G T) {j : Nat} (hj : j < 22) : (tl T j).length ≤ 40000 := by
  obtain ⟨d, hd⟩ := h.Ls hj
  have := hd.len
  rw [List.length_map] at this
  exact this
theorem tx_R.size (h : tx_R t0 S G T) {j : Nat} (hj : j < 22) {post : Int32 → qs_S → Prop} (hp : post (nI (tl T j).length) S) : wp_Jx4a65c_size_8abf5 t0 m9 post S (G 4 j) := by
  obtain ⟨d, hd⟩ := h.Ls hj
  exact pl_size hd (by rw [List.length_map]; exact hp)
theorem ps_getD_map {h : Nat → Nat} {l : List Nat} {i : Nat} (hi : i < l.length) : (l.map h).getD i 0 = h (l.getD i 0) := by
  rw [List.getD_eq_getElem?_getD, List.getElem?_map, List.getD_eq_getElem?_getD, List.getElem?_eq_getElem hi]
  rfl
theorem ps_getD_mem {l : List Nat} {i : Nat} (hi : i < l.length) : l.getD i 0 ∈ l := by
  rw [List.getD_eq_getElem?_getD, List.getElem?_eq_getElem hi]
  exact List.getElem_mem hi
theorem tx_R.get (h : tx_R t0 S G T) {j i : Nat} (hj : j < 22) (hi : i < (tl T j).length) {post : Option Nat → qs_S → Prop} (hp : post (some (G (tt_lc j) ((tl T j).getD i 0))) S) : wp_Jx4a65c_get_915e3 t0 m9 post S (G 4 j) (nI i) := by
  obtain ⟨d, hd⟩ := h.Ls hj
  exact pl_get hd (by rw [List.length_map]; exact hi) (by rw [ps_getD_map hi]; exact hp)
theorem tx_R.isEmpty (h : tx_R t0 S G T) {j : Nat} (hj : j < 22) {post : Int32 → qs_S → Prop} (h0 : tl T j = [] → post 1 S) (h1 : tl T j ≠ [] → post 0 S) : wp_Jx4a65c_isEmpty_aae02 t0 m9 post S (G 4 j) := by
  obtain ⟨d, hd⟩ := h.Ls hj
  exact pl_isEmpty hd (fun z => h0 (List.map_eq_nil_iff.mp z)) (fun z => h1 (fun y => z (by rw [y]; rfl)))
/-- a list is another one behind a step that writes its own cells alone -/
theorem tx_R.setL (h : tx_R t0 S G T) {j : Nat} (hj : j < 22) (hj3 : 3 ≤ j) {S' : qs_S} {l : List Nat} {dd : Nat → Nat} {d' : Nat} (d1 : ∀ j, j < 22 → ps_Ls t0 S (G 4 j) (dd j) ((tl T j).map (G (tt_lc j)))) (d2 : ∀ i j, i < 22 → j < 22 → dd i = dd j → dd i ≠ t0 → i = j) (g1 : ps_Ls t0 S' (G 4 j) d' (l.map (G (tt_lc j)))) (g2 : d' = dd j ∨ d' ∉ qs_L S) (g3 : ps_Fr t0 S S' (fun b => b = G 4 j ∨ b = dd j)) (hl : ∀ e, e ∈ l → tt_v T (tt_lc j) e) : tx_R t0 S' G (tt_L T j l) ∧ tx_K t0 S S' := by
  have v4 : ∀ {i}, i < 22 → tt_v T 4 i := fun hi => Or.inr (Or.inr (Or.inr (Or.inr (Or.inl ⟨rfl, hi⟩))))
  have tlv : ∀ {f i}, tt_v (tt_L T j l) f i ↔ tt_v T f i := by
    intro f i
    unfold tt_v
    have e : ∀ n, n < 3 → tl (tt_L T j l) n = tl T n := fun n hn => if_neg (by omega)
    rw [e 0 (by omega), e 1 (by omega), e 2 (by omega)]
  have hdK : ∀ i, i < 22 → dd i ≠ t0 → dd i ∈ qs_L S ∧ qs_K S (dd i) = 10 := by
    intro i hi hd
    rcases (d1 i hi).2.2.2.2.1 with ⟨e, -⟩ | ⟨-, e1, e2, -⟩
    · exact absurd e hd
    · exact ⟨e1, e2⟩
  have t0n : t0 ∉ qs_L S := h.2.2.1
  have nP : ∀ f i, tt_v T f i → f ≠ 4 → ¬ (G f i = G 4 j ∨ G f i = dd j) := by
    intro f i hv hf z
    rcases z with z | z
    · exact hf (h.2.1 f i 4 j hv (v4 hj) z).1
    · by_cases hd : dd j = t0
      · exact t0n (hd ▸ z ▸ h.L hv)
      · have := (hdK j hj hd).2
        rw [← z, h.K hv] at this
        have := @tt_k7 f i
        omega
  refine ⟨⟨fun f i hv => ?_, fun f i f' i' hv hv' => h.2.1 f i f' i' (tlv.mp hv) (tlv.mp hv'), g3.2.2 t0n, ⟨fun i => if i = j then d' else dd i, fun i hi => ?_, fun i i' hi hi' e hne => ?_⟩, fun i e hi he => ?_⟩, g3.wk (fun b hb z => ?_)⟩
  · have hv' := tlv.mp hv
    have b := g3.1 (G f i) (h.L hv')
    refine ⟨b.1, b.2.trans (h.K hv'), fun k hk => ?_⟩
    have hf : f ≠ 4 := by
      intro e
      rw [e] at hk
      exact absurd hk (Nat.not_lt_zero _)
    have s := g3.2.1 (G f i) (h.L hv') (nP f i hv' hf)
    have z := (h.1 f i hv').2.2 k hk
    cases hbb : tt_b f k i with
    | true => rw [hbb] at z; exact (s.2.1 k).trans z
    | false => rw [hbb] at z; exact (s.1 k).trans z
  · by_cases c : i = j
    · subst c
      show ps_Ls t0 S' (G 4 i) (if i = i then d' else dd i) ((if i = i then l else tl T i).map _)
      rw [if_pos rfl, if_pos rfl]
      exact g1
    · show ps_Ls t0 S' (G 4 i) (if i = j then d' else dd i) ((if i = j then l else tl T i).map _)
      rw [if_neg c, if_neg c]
      refine (d1 i hi).fr g3 (fun z => ?_) (fun hd z => ?_)
      · rcases z with z | z
        · exact c (h.2.1 4 i 4 j (v4 hi) (v4 hj) z).2
        · by_cases hd : dd j = t0
          · exact t0n (hd ▸ z ▸ (d1 i hi).1)
          · have := (hdK j hj hd).2
            rw [← z, (d1 i hi).2.1] at this
            exact absurd this (by decide)
      · rcases z with z | z
        · have := (hdK i hi hd).2
          rw [z, (d1 j hj).2.1] at this
          exact absurd this (by decide)
        · exact c (d2 i j hi hj z hd)
  · have e' : (if i = j then d' else dd i) = (if i' = j then d' else dd i') := e
    have hne' : (if i = j then d' else dd i) ≠ t0 := hne
    by_cases c : i = j <;> by_cases c' : i' = j
    · rw [c, c']
    · rw [if_pos c, if_neg c'] at e'
      rw [if_pos c] at hne'
      rcases g2 with z | z
      · exact c.trans (d2 j i' hj hi' (z.symm.trans e') (z ▸ hne'))
      · exact absurd (e' ▸ (hdK i' hi' (e' ▸ hne')).1) z
    · rw [if_neg c, if_pos c'] at e'
      rw [if_neg c] at hne'
      rcases g2 with z | z
      · exact (d2 i j hi hj (e'.trans z) hne').trans c'.symm
      · exact absurd (e' ▸ (hdK i hi hne').1) z
    · rw [if_neg c, if_neg c'] at e'
      rw [if_neg c] at hne'
      exact d2 i i' hi hi' e' hne'
  · rw [tlv]
    have he' : e ∈ (if i = j then l else tl T i) := he
    by_cases c : i = j
    · rw [if_pos c] at he'
      rw [c]
      exact hl e he'
    · rw [if_neg c] at he'
      exact h.2.2.2.2 i e hi he'
  · rcases z with z | z
    · exact Or.inl (by rw [z, (d1 j hj).2.1]; decide)
    · by_cases hd : dd j = t0
      · exact absurd (hd ▸ z ▸ hb) t0n
      · exact Or.inr (by rw [z]; exact (hdK j hj hd).2)
theorem tx_R.add (h : tx_R t0 S G T) {j e : Nat} (hj : j < 22) (hj3 : 3 ≤ j) (he : tt_v T (tt_lc j) e) (hn : (tl T j).length ≤ 400) (hmc : 1 ≤ mc) (hms : 10 + (tl T j).length + (tl T j).length / 2 ≤ ms) {post : Int32 → qs_S → Prop}
    (hp : ∀ S', tx_R t0 S' G (tt_L T j (tl T j ++ [e])) → tx_K t0 S S' → post 1 S') : wp_Jx4a65c_add_9ea2d t0 m9 mc ms post S (G 4 j) (G (tt_lc j) e) := by
  obtain ⟨dd, d1, d2⟩ := h.2.2.2.1
  refine pl_add (d1 j hj) h.2.2.1 (by rw [List.length_map]; exact hn) hmc (by rw [List.length_map]; exact hms) (h.L he) (by rw [h.K he]; exact Nat.lt_of_lt_of_le tt_k7 (by decide)) (fun S' d' g1 g2 _ g3 => ?_)
  have g1' : ps_Ls t0 S' (G 4 j) d' ((tl T j ++ [e]).map (G (tt_lc j))) := by rw [List.map_append]; exact g1
  obtain ⟨r1, r2⟩ := h.setL hj hj3 d1 d2 g1' g2 g3 (fun e' he' => by
    rcases List.mem_append.mp he' with z | z
    · exact h.2.2.2.2 j e' hj z
    · rw [List.mem_singleton.mp z]; exact he)
  exact hp S' r1 r2
theorem ps_map_erase {h : Nat → Nat} {i : Nat} : ∀ (l : List Nat) (i : Nat), (l.map h).eraseIdx i = (l.eraseIdx i).map h
  | [], _ => rfl
  | _ :: _, 0 => rfl
  | a :: l, i + 1 => by
    show h a :: (l.map h).eraseIdx i = h a :: (l.eraseIdx i).map h
    rw [ps_map_erase (i := 0) l i]
theorem ps_Ls.had {a d : Nat} {xs : List Nat} (h : ps_Ls t0 S a d xs) (ht : t0 ∉ qs_L S) : a ≠ d := by
  intro z
  rcases h.2.2.2.2.1 with ⟨e, -⟩ | ⟨-, -, e, -⟩
  · exact ht (e ▸ z ▸ h.1)
  · have := h.2.1
    rw [z, e] at this
    exact absurd this (by decide)
theorem tx_R.remove (h : tx_R t0 S G T) {j i : Nat} (hj : j < 22) (hj3 : 3 ≤ j) (hi : i < (tl T j).length) {post : Option Nat → qs_S → Prop}
    (hp : ∀ S', tx_R t0 S' G (tt_L T j ((tl T j).eraseIdx i)) → tx_K t0 S S' → post (some (G (tt_lc j) ((tl T j).getD i 0))) S') : wp_Jx4a65c_remove_915e3 t0 m9 post S (G 4 j) (nI i) := by
  obtain ⟨dd, d1, d2⟩ := h.2.2.2.1
  refine pl_remove (d1 j hj) (by rw [List.length_map]; exact hi) ((d1 j hj).had h.2.2.1) (fun S' g1 g3 => ?_)
  rw [ps_map_erase (i := 0)] at g1
  obtain ⟨r1, r2⟩ := h.setL hj hj3 d1 d2 g1 (Or.inl rfl) g3 (fun e' he' => h.2.2.2.2 j e' hj (List.mem_of_mem_eraseIdx he'))
  rw [ps_getD_map hi]
  exact hp S' r1 r2
theorem tx_R.clear (h : tx_R t0 S G T) {j : Nat} (hj : j < 22) (hj3 : 3 ≤ j) {post : qs_S → Prop}
    (hp : ∀ S', tx_R t0 S' G (tt_L T j []) → tx_K t0 S S' → post S') : wp_Jx4a65c_clear_da8c8 t0 m9 post S (G 4 j) := by
  obtain ⟨dd, d1, d2⟩ := h.2.2.2.1
  refine pl_clear (d1 j hj) ((d1 j hj).had h.2.2.1) (fun S' g1 g3 => ?_)
  obtain ⟨r1, r2⟩ := h.setL hj hj3 d1 d2 (l := []) g1 (Or.inl rfl) g3 (fun e' he' => absurd he' List.not_mem_nil)
  exact hp S' r1 r2
end TXR

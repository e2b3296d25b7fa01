/-! ===== what the small methods do to the state by numbers ===== -/
def tt_g (T : tt_T) : Prop := (∀ j, j < 3 → tl T j = List.range (tl T j).length) ∧ tl T 4 = [0, 1, 2, 3] ∧ tl T 5 = [4, 5, 6, 7]
/-- how many below n -/
def tt_ct (p : Nat → Bool) : Nat → Nat
  | 0 => 0
  | n + 1 => tt_ct p n + (if p n = true then 1 else 0)
theorem tt_ct_le (p : Nat → Bool) : ∀ n, tt_ct p n ≤ n
  | 0 => Nat.le_refl 0
  | n + 1 => by
    have := tt_ct_le p n
    show tt_ct p n + (if p n = true then 1 else 0) ≤ n + 1
    split <;> omega
def tt_at (T : tt_T) (wh sp : Int32) (i : Nat) : Bool := decide (ti T 1 2 i = wh ∧ ti T 1 3 i = sp)
def tt_bk (T : tt_T) (ga ho : Int32) (i : Nat) : Bool := decide (ti T 1 6 i = ga ∧ ti T 1 7 i = ho)
theorem tt_L_self {T : tt_T} {j : Nat} : tt_L T j (tl T j) = T := by
  obtain ⟨a, b, c⟩ := T
  unfold tt_L
  refine Prod.ext rfl (Prod.ext rfl ?_)
  funext j'
  show (if j' = j then c j else c j') = c j'
  by_cases h : j' = j
  · rw [if_pos h, h]
  · rw [if_neg h]
theorem ps_sm {x : Int32} {n : Nat} (hn : n < 2 ^ 31) (h0 : ¬ x < 0) (h1 : x < nI n) : ∃ i, i < n ∧ x = nI i := by
  obtain ⟨j, hj, e⟩ := nI_of h0
  rw [e] at h1
  exact ⟨j, (nI_ltI hj hn).mp h1, e⟩
theorem ps_range {l : List Nat} (h : l = List.range l.length) {i : Nat} (hi : i < l.length) : l.getD i 0 = i := by
  have e : (List.range l.length).getD i 0 = i := by
    rw [List.getD_eq_getElem?_getD, List.getElem?_range hi]
    rfl
  rw [← h] at e
  exact e
section TXL
variable {t0 m9 mc ms : Nat} {S : qs_S} {G : Nat → Nat → Nat} {T : tt_T}
theorem tt_v6 : tt_v T 6 0 := Or.inr (Or.inr (Or.inr (Or.inr (Or.inr ⟨rfl, rfl⟩))))
theorem tt_v4 {j : Nat} (h : j < 22) : tt_v T 4 j := Or.inr (Or.inr (Or.inr (Or.inr (Or.inl ⟨rfl, h⟩))))
theorem tt_v3 {w : Nat} (h : w < 8) : tt_v T 3 w := Or.inr (Or.inr (Or.inr (Or.inl ⟨rfl, h⟩)))
theorem tt_v2 {i : Nat} (h : i < (tl T 2).length) : tt_v T 2 i := Or.inr (Or.inr (Or.inl ⟨rfl, h⟩))
theorem tt_v1 {i : Nat} (h : i < (tl T 1).length) : tt_v T 1 i := Or.inr (Or.inl ⟨rfl, h⟩)
theorem tt_v0 {i : Nat} (h : i < (tl T 0).length) : tt_v T 0 i := Or.inl ⟨rfl, h⟩
theorem tt_v2' {i : Nat} (h : tt_v T 2 i) : i < (tl T 2).length := by
  rcases h with h | h | h | h | h | h
  · exact absurd h.1 (by decide)
  · exact absurd h.1 (by decide)
  · exact h.2
  · exact absurd h.1 (by decide)
  · exact absurd h.1 (by decide)
  · exact absurd h.1 (by decide)
theorem tx_R.KW (h : tx_R t0 S G T) {w : Nat} (hw : w < 8) : qs_K S (G 3 w) = 2 ∨ qs_K S (G 3 w) = 5 := by
  have k := h.K (tt_v3 hw)
  have e : tt_k 3 w = if w < 4 then 2 else 5 := rfl
  rw [e] at k
  by_cases c : w < 4
  · rw [if_pos c] at k; exact Or.inl k
  · rw [if_neg c] at k; exact Or.inr k
theorem tx_R.KC (h : tx_R t0 S G T) {w : Nat} (hw : w < 4) : qs_K S (G 3 w) = 2 := by
  have k := h.K (tt_v3 (T := T) (w := w) (by omega))
  have e : tt_k 3 w = if w < 4 then 2 else 5 := rfl
  rw [e, if_pos hw] at k
  exact k
theorem tx_R.KT (h : tx_R t0 S G T) {w : Nat} (h4 : 4 ≤ w) (hw : w < 8) : qs_K S (G 3 w) = 5 := by
  have k := h.K (tt_v3 (T := T) hw)
  have e : tt_k 3 w = if w < 4 then 2 else 5 := rfl
  rw [e, if_neg (by omega)] at k
  exact k
theorem tx_R.xL (h : tx_R t0 S G T) : G 6 0 ∈ qs_L S ∧ qs_K S (G 6 0) = 6 := ⟨h.L tt_v6, h.K tt_v6⟩
theorem tx_R.lL (h : tx_R t0 S G T) {j : Nat} (hj : j < 22) : G 4 j ∈ qs_L S ∧ qs_K S (G 4 j) = 0 := ⟨h.L (tt_v4 hj), h.K (tt_v4 hj)⟩
theorem tx_R.xR (h : tx_R t0 S G T) {k : Nat} (hk : k < 6) : qs_R S k (G 6 0) = some (G 4 k) := by
  have z := h.R (k := k) tt_v6 (by show k < 8; omega) (by show decide (k < 6) = true; exact decide_eq_true hk)
  exact z
theorem tx_R.wt (h : tx_R t0 S G T) {w : Nat} (hw : w < 8) : qs_R S 1 (G 3 w) = some (G 4 (6 + w)) := h.R (tt_v3 hw) (by decide) rfl
theorem tx_R.rm (h : tx_R t0 S G T) {w : Nat} (hw : w < 8) : qs_R S 2 (G 3 w) = some (G 4 (14 + w)) := h.R (tt_v3 hw) (by decide) rfl
theorem cx_isAt (h : tx_R t0 S G T) {i : Nat} (hi : tt_v T 1 i) {x1 x2 : Int32} {post : Int32 → qs_S → Prop} (h1 : ti T 1 2 i = x1 ∧ ti T 1 3 i = x2 → post 1 S) (h0 : ¬ (ti T 1 2 i = x1 ∧ ti T 1 3 i = x2) → post 0 S) : wp_X0_isAt t0 m9 post S (G 1 i) x1 x2 := by
  refine ⟨⟨h.L hi, h.K hi⟩, fun v e => ?_⟩
  rw [h.I hi (by decide) rfl] at e
  subst e
  refine ⟨fun c => ⟨Or.inl rfl, h0 (fun z => c z.1)⟩, fun c v e => ?_⟩
  rw [h.I hi (by decide) rfl] at e
  subst e
  exact ⟨fun c' => ⟨Or.inl rfl, h0 (fun z => c' z.2)⟩, fun c' => ⟨Or.inr rfl, h1 ⟨c, c'⟩⟩⟩
theorem cx_isBookedAt (h : tx_R t0 S G T) {i : Nat} (hi : tt_v T 1 i) {x1 x2 : Int32} {post : Int32 → qs_S → Prop} (h1 : ti T 1 6 i = x1 ∧ ti T 1 7 i = x2 → post 1 S) (h0 : ¬ (ti T 1 6 i = x1 ∧ ti T 1 7 i = x2) → post 0 S) : wp_X0_isBookedAt t0 m9 post S (G 1 i) x1 x2 := by
  refine ⟨⟨h.L hi, h.K hi⟩, fun v e => ?_⟩
  rw [h.I hi (by decide) rfl] at e
  subst e
  refine ⟨fun c => ⟨Or.inl rfl, h0 (fun z => c z.1)⟩, fun c v e => ?_⟩
  rw [h.I hi (by decide) rfl] at e
  subst e
  exact ⟨fun c' => ⟨Or.inl rfl, h0 (fun z => c' z.2)⟩, fun c' => ⟨Or.inr rfl, h1 ⟨c, c'⟩⟩⟩
theorem cx_isBooked (h : tx_R t0 S G T) {i : Nat} (hi : tt_v T 1 i) {post : Int32 → qs_S → Prop} (h1 : ¬ ti T 1 7 i = -1 → post 1 S) (h0 : ti T 1 7 i = -1 → post 0 S) : wp_X0_isBooked t0 m9 post S (G 1 i) := by
  refine ⟨⟨h.L hi, h.K hi⟩, fun v e => ?_⟩
  rw [h.I hi (by decide) rfl] at e
  subst e
  exact ⟨fun c => ⟨Or.inl rfl, h0 c⟩, fun c => ⟨Or.inr rfl, h1 c⟩⟩
theorem cx_isMoveMade (h : tx_R t0 S G T) {i : Nat} (hi : tt_v T 2 i) {post : Int32 → qs_S → Prop} (h1 : ¬ ti T 2 5 i = -1 → post 1 S) (h0 : ti T 2 5 i = -1 → post 0 S) : wp_X2_isMoveMade t0 m9 post S (G 2 i) := by
  refine ⟨⟨h.L hi, h.K hi⟩, fun v e => ?_⟩
  rw [h.I hi (by decide) rfl] at e
  subst e
  exact ⟨fun c => ⟨Or.inl rfl, h0 c⟩, fun c => ⟨Or.inr rfl, h1 c⟩⟩
theorem cx_bring (h : tx_R t0 S G T) {i : Nat} (hi : tt_v T 1 i) {x1 x2 : Int32} {post : qs_S → Prop} (hp : ∀ S', tx_R t0 S' G (tt_I (tt_I T 1 2 i x1) 1 3 i x2) → tx_K t0 S S' → post S') : wp_X0_bring t0 m9 post S (G 1 i) x1 x2 := by
  refine ⟨⟨h.L hi, h.K hi⟩, ?_⟩
  obtain ⟨r1, k1⟩ := h.wI (k := 2) (v := x1) hi rfl (by decide)
  obtain ⟨r2, k2⟩ := r1.wI (f := 1) (i := i) (k := 3) (v := x2) hi rfl (by decide)
  exact hp _ r2 (k1.tr k2)
theorem cx_dropBooking (h : tx_R t0 S G T) {i : Nat} (hi : tt_v T 1 i) {post : qs_S → Prop} (hp : ∀ S', tx_R t0 S' G (tt_I (tt_I T 1 6 i (-1)) 1 7 i (-1)) → tx_K t0 S S' → post S') : wp_X0_dropBooking t0 m9 post S (G 1 i) := by
  refine ⟨⟨h.L hi, h.K hi⟩, ?_⟩
  obtain ⟨r1, k1⟩ := h.wI (k := 6) (v := -1) hi rfl (by decide)
  obtain ⟨r2, k2⟩ := r1.wI (f := 1) (i := i) (k := 7) (v := -1) hi rfl (by decide)
  exact hp _ r2 (k1.tr k2)
theorem cx_indexOfL (h : tx_R t0 S G T) {j m : Nat} (hj : j < 22) (hlc : tt_lc j = 2) (hm : tt_v T 2 m) {post : Int32 → qs_S → Prop} (h1 : m ∈ tl T j → post (nI ((tl T j).idxOf m)) S) (h0 : m ∉ tl T j → post (-1) S) : ∀ (k i : Nat), i + k = (tl T j).length → (∀ i', i' < i → (tl T j).getD i' 0 ≠ m) → wp_X6_indexOf_b2 t0 m9 post (k + 1) S (G 2 m) (G 4 j) (nI i) := by
  have hb := h.len hj
  intro k
  induction k with
  | zero =>
    intro i hi hno
    refine ⟨h.lL hj, h.size hj ⟨fun _ => h0 (fun hmm => ?_), fun c => absurd (nI_le (by omega) (by omega)) c⟩⟩
    obtain ⟨i', hi', e⟩ := List.getElem_of_mem hmm
    refine hno i' (by omega) ?_
    rw [List.getD_eq_getElem?_getD, List.getElem?_eq_getElem hi', e]
    rfl
  | succ k ih =>
    intro i hi hno
    have hlt : i < (tl T j).length := by omega
    refine ⟨h.lL hj, h.size hj ⟨fun c => absurd c (nI_ge hlt (by omega)), fun _ => ⟨h.lL hj, h.get hj hlt ⟨_, rfl, fun c v e => ?_, fun c => ?_⟩⟩⟩⟩
    · rw [e, nI_1]
      refine ih (i + 1) (by omega) (fun i' hi' => ?_)
      by_cases hii : i' = i
      · rw [hii]
        intro z
        refine c ?_
        rw [z, hlc]
      · exact hno i' (by omega)
    · have hv := h.2.2.2.2 j _ hj (ps_getD_mem hlt)
      rw [hlc] at hv c
      have e := (h.2.1 2 _ 2 m hv hm c).2
      have hmem : m ∈ tl T j := e ▸ ps_getD_mem hlt
      have : (tl T j).idxOf m = i := by
        have hidx : (tl T j).idxOf m < (tl T j).length := List.idxOf_lt_length_iff.mpr hmem
        have hg : (tl T j).getD ((tl T j).idxOf m) 0 = m := by
          rw [List.getD_eq_getElem?_getD, List.getElem?_eq_getElem hidx]
          exact List.getElem_idxOf hidx
        rcases Nat.lt_trichotomy ((tl T j).idxOf m) i with z | z | z
        · exact absurd hg (hno _ z)
        · exact z
        · have this := List.not_of_lt_findIdx (p := fun y => y == m) (xs := tl T j) (i := i) z
          have e2 : (tl T j)[i] = m := by
            rw [List.getD_eq_getElem?_getD, List.getElem?_eq_getElem hlt] at e
            exact e
          rw [e2] at this
          simp at this
      have r := h1 hmem
      rw [this] at r
      exact r
theorem cx_indexOf (h : tx_R t0 S G T) {j m : Nat} (hj : j < 22) (hlc : tt_lc j = 2) (hm : tt_v T 2 m) {post : Int32 → qs_S → Prop} (h1 : m ∈ tl T j → post (nI ((tl T j).idxOf m)) S) (h0 : m ∉ tl T j → post (-1) S) : wp_X6_indexOf t0 m9 post S (G 2 m) (G 4 j) :=
  ⟨(tl T j).length + 1, cx_indexOfL h hj hlc hm h1 h0 _ 0 (Nat.zero_add _) (fun _ z => absurd z (Nat.not_lt_zero _))⟩
theorem cx_takeOut (h : tx_R t0 S G T) {w m : Nat} (hw : w < 8) (hm : tt_v T 2 m) {post : qs_S → Prop} (hp : ∀ S', tx_R t0 S' G (tt_L T (6 + w) ((tl T (6 + w)).erase m)) → tx_K t0 S S' → post S') : wp_X5_takeOut t0 m9 post S (G 3 w) (G 2 m) := by
  have hlc : tt_lc (6 + w) = 2 := by
    unfold tt_lc
    rw [if_neg (by omega), if_neg (by omega), if_neg (by omega)]
  have hb := h.len (j := 6 + w) (by omega)
  refine ⟨⟨h.L (tt_v3 hw), h.KW hw⟩, G 4 (6 + w), h.wt hw, ?_⟩
  refine cx_indexOf h (by omega) hlc hm (fun hmem => ?_) (fun hmem => ?_)
  · have hidx : (tl T (6 + w)).idxOf m < (tl T (6 + w)).length := List.idxOf_lt_length_iff.mpr hmem
    refine ⟨fun c => ?_, fun _ => ⟨⟨h.L (tt_v3 hw), h.KW hw⟩, G 4 (6 + w), h.wt hw, h.lL (by omega), ?_⟩⟩
    · have hz : ¬ nI ((tl T (6 + w)).idxOf m) < 0 := nI_pos (by omega)
      rw [c] at hz
      exact absurd (by decide) hz
    · refine h.remove (by omega) (by omega) hidx (fun S' r k => ⟨_, rfl, hp S' ?_ k⟩)
      rw [List.erase_eq_eraseIdx_of_idxOf rfl]
      exact r
  · refine ⟨fun _ => hp S ?_ tx_K.rf, fun c => absurd rfl c⟩
    rw [List.erase_of_not_mem hmem, tt_L_self]
    exact h
theorem cx_putLast (h : tx_R t0 S G T) {w m : Nat} (hw : w < 8) (hm : tt_v T 2 m) (hn : (tl T (6 + w)).length ≤ 400) (hmc : 1 ≤ mc) (hms : 610 ≤ ms) {post : qs_S → Prop} (hp : ∀ S', tx_R t0 S' G (tt_L T (6 + w) ((tl T (6 + w)).erase m ++ [m])) → tx_K t0 S S' → post S') : wp_X5_putLast t0 m9 mc ms post S (G 3 w) (G 2 m) := by
  have hlc : tt_lc (6 + w) = 2 := by
    unfold tt_lc
    rw [if_neg (by omega), if_neg (by omega), if_neg (by omega)]
  refine ⟨⟨h.L (tt_v3 hw), h.KW hw⟩, cx_takeOut h hw hm (fun S1 r1 k1 => ?_)⟩
  have e1 : tl (tt_L T (6 + w) ((tl T (6 + w)).erase m)) (6 + w) = (tl T (6 + w)).erase m := if_pos rfl
  have hle := List.length_erase_le (a := m) (l := tl T (6 + w))
  refine ⟨⟨r1.L (tt_v3 hw), r1.KW hw⟩, G 4 (6 + w), r1.wt hw, r1.lL (by omega), mc, ms, ⟨by omega, by omega⟩, ?_⟩
  have a := r1.add (m9 := m9) (mc := mc) (ms := ms) (j := 6 + w) (e := m) (by omega) (by omega) (by rw [hlc]; exact tt_v2 (T := tt_L T (6 + w) _) (by show m < (tl (tt_L T (6 + w) _) 2).length; rw [show tl (tt_L T (6 + w) ((tl T (6 + w)).erase m)) 2 = tl T 2 from if_neg (by omega)]; exact tt_v2' hm)) (by rw [e1]; omega) hmc (by rw [e1]; omega) (post := fun _ S13 => post S13) (fun S2 r2 k2 => ?_)
  · rw [hlc] at a
    exact a
  · refine hp S2 ?_ (k1.tr k2)
    rw [e1] at r2
    have e2 : tt_L (tt_L T (6 + w) ((tl T (6 + w)).erase m)) (6 + w) ((tl T (6 + w)).erase m ++ [m]) = tt_L T (6 + w) ((tl T (6 + w)).erase m ++ [m]) := by
      refine Prod.ext rfl (Prod.ext rfl ?_)
      funext j'
      show (if j' = 6 + w then _ else if j' = 6 + w then _ else tl T j') = if j' = 6 + w then _ else tl T j'
      by_cases c : j' = 6 + w
      · rw [if_pos c, if_pos c]
      · rw [if_neg c, if_neg c, if_neg c]
    rw [e2] at r2
    exact r2
end TXL

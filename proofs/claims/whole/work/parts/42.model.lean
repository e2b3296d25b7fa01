/-! ===== the reference's state by numbers: mi M k its int field k, ma M k i the i-th of its row k ===== -/
abbrev mm_M : Type := (Nat → Int32) × (Nat → Nat → Int32)
def mi (M : mm_M) (k : Nat) : Int32 := M.1 k
def ma (M : mm_M) (k i : Nat) : Int32 := M.2 k i
def mm_I (M : mm_M) (k : Nat) (v : Int32) : mm_M := (fun k' => if k' = k then v else mi M k', ma M)
def mm_A (M : mm_M) (k i : Nat) (v : Int32) : mm_M := (mi M, fun k' i' => if k' = k ∧ i' = i then v else ma M k' i')
/-- how long the rows are, what kind -/
def mn (k : Nat) : Nat := if k = 3 ∨ k = 4 ∨ k = 5 then 10 else if k = 14 then 6 else if k = 16 then 4 else if (7 ≤ k ∧ k ≤ 13) ∨ k = 15 then 24 else if k = 30 then 640 else if k = 17 ∨ (29 ≤ k ∧ k ≤ 34) then 8 else if (19 ≤ k ∧ k ≤ 24) ∨ k = 26 ∨ k = 28 then 80 else 0
def mk (k : Nat) : Nat := if k = 5 ∨ k = 17 ∨ k = 24 then 9 else 8
def tx_M (S : qs_S) (y : Nat) (H : Nat → Nat) (M : mm_M) : Prop :=
  (y ∈ qs_L S ∧ qs_K S y = 7) ∧ (∀ k, mn k = 0 → qs_I S k y = mi M k) ∧ (∀ k, mn k ≠ 0 → qs_R S k y = some (H k) ∧ (H k ∈ qs_L S ∧ qs_K S (H k) = mk k) ∧ qs_Z S (H k) = mn k ∧ ∀ i, i < mn k → qs_A S (H k) i = ma M k i) ∧ ∀ k k', mn k ≠ 0 → mn k' ≠ 0 → H k = H k' → k = k'
def tx_J (t0 : Nat) (S S' : qs_S) : Prop := ps_Fr t0 S S' (fun b => qs_K S b = 7 ∨ qs_K S b = 8 ∨ qs_K S b = 9)
theorem tx_J.rf {t0 : Nat} {S : qs_S} : tx_J t0 S S := ps_Fr.rf
theorem tx_J.tr {t0 : Nat} {S S1 S2 : qs_S} (h : tx_J t0 S S1) (k : tx_J t0 S1 S2) : tx_J t0 S S2 :=
  ⟨fun b hb => ⟨(k.1 b (h.1 b hb).1).1, (k.1 b (h.1 b hb).1).2.trans (h.1 b hb).2⟩, fun b hb hp => (h.2.1 b hb hp).tr (k.2.1 b (h.1 b hb).1 (by show ¬ (qs_K S1 b = 7 ∨ qs_K S1 b = 8 ∨ qs_K S1 b = 9); rw [(h.1 b hb).2]; exact hp)), fun ht => k.2.2 (h.2.2 ht)⟩
theorem mk_89 (k : Nat) : mk k = 8 ∨ mk k = 9 := by
  unfold mk
  split
  · exact Or.inr rfl
  · exact Or.inl rfl
section TYM
variable {t0 m9 y : Nat} {S S' : qs_S} {G : Nat → Nat → Nat} {T : tt_T} {H : Nat → Nat} {M : mm_M}
/-- each side leaves the other's cells -/
theorem tx_M.fr (h : tx_M S y H M) (f : tx_K t0 S S') : tx_M S' y H M := by
  obtain ⟨h1, h2, h3, h4⟩ := h
  have ny : ¬ (qs_K S y < 7 ∨ qs_K S y = 10) := by rw [h1.2]; omega
  have sy := f.2.1 y h1.1 ny
  refine ⟨⟨(f.1 y h1.1).1, (f.1 y h1.1).2.trans h1.2⟩, fun k hk => (sy.1 k).trans (h2 k hk), fun k hk => ?_, h4⟩
  obtain ⟨e1, e2, e3, e4⟩ := h3 k hk
  have nk : ¬ (qs_K S (H k) < 7 ∨ qs_K S (H k) = 10) := by rw [e2.2]; have := mk_89 k; omega
  have sk := f.2.1 (H k) e2.1 nk
  exact ⟨(sy.2.1 k).trans e1, ⟨(f.1 _ e2.1).1, (f.1 _ e2.1).2.trans e2.2⟩, sk.2.2.1.trans e3, fun i hi => (sk.2.2.2.1 i).trans (e4 i hi)⟩
theorem tx_R.fr (h : tx_R t0 S G T) (f : tx_J t0 S S') : tx_R t0 S' G T := by
  obtain ⟨h1, h2, h3, ⟨dd, h4, h5⟩, h6⟩ := h
  have nk : ∀ f i, tt_v T f i → ¬ (qs_K S (G f i) = 7 ∨ qs_K S (G f i) = 8 ∨ qs_K S (G f i) = 9) := by
    intro f i v
    rw [(h1 f i v).2.1]
    have := @tt_k7 f i
    omega
  refine ⟨fun f i v => ?_, h2, f.2.2 h3, ⟨dd, fun j hj => (h4 j hj).fr f (fun z => ?_) (fun hd z => ?_), h5⟩, h6⟩
  · rename_i f0
    have s := f0.2.1 _ (h1 f i v).1 (nk f i v)
    refine ⟨(f0.1 _ (h1 f i v).1).1, (f0.1 _ (h1 f i v).1).2.trans (h1 f i v).2.1, fun k hk => ?_⟩
    have z := (h1 f i v).2.2 k hk
    cases hbb : tt_b f k i with
    | true => rw [hbb] at z; exact (s.2.1 k).trans z
    | false => rw [hbb] at z; exact (s.1 k).trans z
  · exact nk 4 j (tt_v4 hj) z
  · rcases (h4 j hj).2.2.2.2.1 with ⟨e, -⟩ | ⟨-, -, e, -⟩
    · exact hd e
    · rw [e] at z
      omega
theorem tx_M.y7 (h : tx_M S y H M) : y ∈ qs_L S ∧ qs_K S y = 7 := h.1
theorem tx_M.rI (h : tx_M S y H M) {k : Nat} {P : Int32 → Prop} (p : P (mi M k)) (hk : mn k = 0 := by rfl) : ∀ x : Int32, x = qs_I S k y → P x := fun x e => by
  rw [e.trans (h.2.1 k hk)]
  exact p
theorem tx_M.ar (h : tx_M S y H M) (k : Nat) (hk : mn k ≠ 0 := by decide) : qs_R S k y = some (H k) := (h.2.2.1 k hk).1
theorem tx_M.hk (h : tx_M S y H M) (k : Nat) (hk : mn k ≠ 0 := by decide) : H k ∈ qs_L S ∧ qs_K S (H k) = mk k := (h.2.2.1 k hk).2.1
theorem tx_M.vp (h : tx_M S y H M) {k i : Nat} {x : Int32} (hx : x = nI i) (hi : i < mn k) : vp_in x (qs_Z S (H k)) := by
  have hm : mn k ≤ 640 := by
    unfold mn
    repeat' split
    all_goals omega
  rw [(h.2.2.1 k (by omega)).2.2.1, hx]
  exact vp_in_nI hi (by omega)
theorem tx_M.va (h : tx_M S y H M) {k i : Nat} {x : Int32} (hx : x = nI i) (hi : i < mn k) : qs_A S (H k) x.toNatClampNeg = ma M k i := by
  have hm : mn k ≤ 640 := by
    unfold mn
    repeat' split
    all_goals omega
  rw [hx, nI_clamp (by omega)]
  exact (h.2.2.1 k (by omega)).2.2.2 i hi
/-- an element is read -/
theorem tx_M.rA (h : tx_M S y H M) {k i : Nat} {x : Int32} (hx : x = nI i) {P : Int32 → Prop} (p : P (ma M k i)) (hi : i < mn k) : ∃ q : Nat, qs_R S k y = some q ∧ ((q ∈ qs_L S ∧ qs_K S q = mk k) ∧ (vp_in x (qs_Z S q) ∧ (∀ v : Int32, v = qs_A S q x.toNatClampNeg → P v))) :=
  ⟨H k, h.ar k (by omega), h.hk k (by omega), h.vp hx hi, fun v e => by rw [e, h.va hx hi]; exact p⟩
/-- the same, where the row's address is known already -/
theorem tx_M.rB (h : tx_M S y H M) {k i : Nat} {x : Int32} (hx : x = nI i) {P : Int32 → Prop} (p : P (ma M k i)) (hi : i < mn k) : (H k ∈ qs_L S ∧ qs_K S (H k) = mk k) ∧ (vp_in x (qs_Z S (H k)) ∧ (∀ v : Int32, v = qs_A S (H k) x.toNatClampNeg → P v)) :=
  ⟨h.hk k (by omega), h.vp hx hi, fun v e => by rw [e, h.va hx hi]; exact p⟩
theorem tx_M.wI (h : tx_M S y H M) {k : Nat} {v : Int32} (t0 : Nat) : tx_M (qs_wI S k y v) y H (mm_I M k v) ∧ tx_J t0 S (qs_wI S k y v) := by
  obtain ⟨h1, h2, h3, h4⟩ := h
  refine ⟨⟨h1, fun k' hk' => ?_, fun k' hk' => h3 k' hk', h4⟩, ps_Fr.wI (Or.inl h1.2)⟩
  show (if k' = k ∧ y = y then v else qs_I S k' y) = if k' = k then v else mi M k'
  by_cases c : k' = k
  · rw [if_pos ⟨c, rfl⟩, if_pos c]
  · rw [if_neg (fun z => c z.1), if_neg c]
    exact h2 k' hk'
theorem tx_M.wA (h : tx_M S y H M) {k i : Nat} {x v : Int32} (t0 : Nat) (hx : x = nI i) (hi : i < mn k) : tx_M (qs_wA S (H k) x.toNatClampNeg v) y H (mm_A M k i v) ∧ tx_J t0 S (qs_wA S (H k) x.toNatClampNeg v) := by
  have hm : mn k ≤ 640 := by
    unfold mn
    repeat' split
    all_goals omega
  have ex : x.toNatClampNeg = i := by rw [hx, nI_clamp (by omega)]
  obtain ⟨h1, h2, h3, h4⟩ := h
  have hk := (h3 k (by omega)).2.1
  rw [ex]
  refine ⟨⟨h1, h2, fun k' hk' => ?_, h4⟩, ps_Fr.wA (by rw [hk.2]; exact Or.inr (mk_89 k))⟩
  obtain ⟨e1, e2, e3, e4⟩ := h3 k' hk'
  refine ⟨e1, e2, e3, fun i' hi' => ?_⟩
  show (if H k' = H k ∧ i' = i then v else qs_A S (H k') i') = if k' = k ∧ i' = i then v else ma M k' i'
  by_cases c : k' = k ∧ i' = i
  · rw [if_pos ⟨by rw [c.1], c.2⟩, if_pos c]
  · rw [if_neg (fun z => c ⟨h4 k' k hk' (by omega) z.1, z.2⟩), if_neg c]
    exact e4 i' hi'
end TYM
/-! ===== the reference's state speaks of the class's ===== -/
def me (n : Nat) : Int32 := match n with
  | 0 => -1
  | m + 1 => nI m
def sm_i (T : tt_T) (M : mm_M) : Prop := mi M 1 = ti T 6 6 0 ∧ mi M 2 = nI (tl T 0).length ∧ mi M 6 = nI (tl T 1).length ∧ mi M 18 = nI (tl T 2).length ∧ mi M 25 = ti T 6 7 0 ∧ mi M 27 = nI (tl T 3).length
def sm_s (T : tt_T) (M : mm_M) : Prop := ∀ s, s < (tl T 0).length → ma M 3 s = ti T 0 0 s ∧ ma M 3 s + ma M 4 s = ti T 0 1 s ∧ ma M 5 s = ti T 0 2 s
def sm_b (T : tt_T) (M : mm_M) : Prop := ∀ b, b < (tl T 1).length → ma M 7 b = nI (tr T 1 0 b - 1) ∧ ma M 8 b = ti T 1 1 b ∧ ma M 9 b = ti T 1 2 b ∧ (ti T 1 2 b ≠ 0 → ti T 1 2 b ≠ 1 → ma M 10 b = ti T 1 3 b) ∧ ma M 11 b = ti T 1 5 b ∧ ma M 12 b = ti T 1 7 b ∧ (ti T 1 7 b ≠ -1 → ma M 13 b = ti T 1 6 b) ∧ (ti T 1 2 b = 3 → ma M 15 b = ti T 1 4 b)
def sm_h (T : tt_T) (M : mm_M) : Prop := ∀ s, s < 6 → ma M 14 s = nI (tt_ca T 3 (nI s))
def sm_w (T : tt_T) (M : mm_M) : Prop := ∀ w, w < 8 → (w < 4 → ma M 16 w = ti T 3 7 w) ∧ ma M 17 w = ti T 3 5 w ∧ ma M 31 w = ti T 3 3 w ∧ ma M 32 w = ti T 3 4 w ∧ ma M 33 w = me (tr T 3 6 w) ∧ (4 ≤ w → ma M 34 w = me (tr T 3 7 w))
def sm_m (T : tt_T) (M : mm_M) : Prop := ∀ m, m < (tl T 2).length → ma M 19 m = ti T 2 1 m ∧ ma M 20 m = nI (tr T 2 2 m - 1) ∧ ma M 21 m = ti T 2 3 m ∧ ma M 22 m = ti T 2 4 m ∧ ma M 23 m = ti T 2 5 m + 1 ∧ ma M 24 m = ti T 2 6 m
def sm_d (T : tt_T) (M : mm_M) : Prop := ∀ m, m < (tl T 2).length → ∃ d, d < 256 ∧ ma M 26 m = nI d ∧ ∀ w, w < 8 → d.testBit w = decide (m ∈ tl T (14 + w))
def sm_z (T : tt_T) (M : mm_M) : Prop := (∀ m, (tl T 2).length ≤ m → m < 80 → ma M 22 m = 0 ∧ ma M 23 m = 0 ∧ ma M 24 m = 0 ∧ ma M 26 m = 0) ∧ ∀ i, (tl T 0).length ≤ i → i < 10 → ma M 5 i = 0
def sm_l (T : tt_T) (M : mm_M) : Prop := ∀ k, k < (tl T 3).length → ma M 28 k = nI ((tl T 3).getD k 0)
def sm_q (T : tt_T) (M : mm_M) : Prop := ∀ w, w < 8 → ma M 29 w = nI (tl T (6 + w)).length ∧ ∀ k, k < (tl T (6 + w)).length → ma M 30 (80 * w + k) = nI ((tl T (6 + w)).getD k 0)
def sm (T : tt_T) (M : mm_M) : Prop := sm_i T M ∧ sm_s T M ∧ sm_b T M ∧ sm_h T M ∧ sm_w T M ∧ sm_m T M ∧ sm_d T M ∧ sm_z T M ∧ sm_l T M ∧ sm_q T M
section SM
variable {T : tt_T} {M : mm_M}
theorem sm.i (h : sm T M) : sm_i T M := h.1
theorem sm.s (h : sm T M) : sm_s T M := h.2.1
theorem sm.b (h : sm T M) : sm_b T M := h.2.2.1
theorem sm.h (h : sm T M) : sm_h T M := h.2.2.2.1
theorem sm.w (h : sm T M) : sm_w T M := h.2.2.2.2.1
theorem sm.m (h : sm T M) : sm_m T M := h.2.2.2.2.2.1
theorem sm.d (h : sm T M) : sm_d T M := h.2.2.2.2.2.2.1
theorem sm.z (h : sm T M) : sm_z T M := h.2.2.2.2.2.2.2.1
theorem sm.l (h : sm T M) : sm_l T M := h.2.2.2.2.2.2.2.2.1
theorem sm.q (h : sm T M) : sm_q T M := h.2.2.2.2.2.2.2.2.2
theorem sm.th (h : sm T M) {v : Int32} : sm T (mm_I M 0 v) := h
end SM

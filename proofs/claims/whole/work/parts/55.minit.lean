/-! ===== the reference's constructor by numbers; how both begin ===== -/
/-- a new row q, its contents f, all else as before -/
def vq (t0 : Nat) (S S' : qs_S) (q ci n : Nat) (f : Nat → Int32) : Prop := ps_Fr t0 S S' (fun _ => False) ∧ q ∈ qs_L S' ∧ qs_K S' q = ci ∧ qs_Z S' q = n ∧ ∀ i, i < n → qs_A S' q i = f i
theorem vq_new {t0 : Nat} {S : qs_S} {q ci n : Nat} (hq : q ∉ qs_L S) (ht : q ≠ t0) : vq t0 S (qs_nA S q ci n) q ci n (fun _ => 0) :=
  ⟨ps_Fr.nA hq ht, List.mem_append_right _ (List.mem_singleton.mpr rfl), if_pos rfl, if_pos rfl, fun _ _ => if_pos rfl⟩
theorem vq_w {t0 : Nat} {S S' : qs_S} {q ci n : Nat} {f : Nat → Int32} (hq : q ∉ qs_L S) (h : vq t0 S S' q ci n f) (i : Nat) (v : Int32) : vq t0 S (qs_wA S' q i v) q ci n (fun j => if j = i then v else f j) := by
  obtain ⟨h1, h2, h3, h4, h5⟩ := h
  have f1 : ps_Fr t0 S' (qs_wA S' q i v) (fun b => b = q) := ps_Fr.wA rfl
  refine ⟨⟨fun b hb => ⟨(f1.1 b (h1.1 b hb).1).1, (f1.1 b (h1.1 b hb).1).2.trans (h1.1 b hb).2⟩, fun b hb hx => (h1.2.1 b hb hx).tr (f1.2.1 b (h1.1 b hb).1 (fun z => hq (z ▸ hb))), fun z => f1.2.2 (h1.2.2 z)⟩, h2, h3, h4, fun j hj => ?_⟩
  show (if q = q ∧ j = i then v else qs_A S' q j) = if j = i then v else f j
  by_cases c : j = i
  · rw [if_pos ⟨rfl, c⟩, if_pos c]
  · rw [if_neg (fun z => c z.2), if_neg c]
    exact h5 j hj
theorem vq.vp {t0 : Nat} {S S' : qs_S} {q ci n : Nat} {f : Nat → Int32} (h : vq t0 S S' q ci n f) {x : Int32} {i : Nat} (hx : x = nI i) (hi : i < n) (hn : n < 2 ^ 31) : vp_in x (qs_Z S' q) := by
  rw [h.2.2.2.1, hx]
  exact vp_in_nI hi hn
/-- the reference in the making: the rows of l stand -/
def tx_V (l : List Nat) (S : qs_S) (y : Nat) (H : Nat → Nat) (M : mm_M) : Prop :=
  (y ∈ qs_L S ∧ qs_K S y = 7) ∧ (∀ k, mn k = 0 → qs_I S k y = mi M k) ∧ (∀ k, k ∈ l → qs_R S k y = some (H k) ∧ (H k ∈ qs_L S ∧ qs_K S (H k) = mk k) ∧ qs_Z S (H k) = mn k ∧ ∀ i, i < mn k → qs_A S (H k) i = ma M k i) ∧ ∀ k k', k ∈ l → k' ∈ l → H k = H k' → k = k'
theorem tx_V.row {t0 : Nat} {l : List Nat} {S S' : qs_S} {y : Nat} {H : Nat → Nat} {M : mm_M} (h : tx_V l S y H M) {k q ci n : Nat} {f : Nat → Int32} (hk : k ∉ l) (hc : mk k = ci) (hn : mn k = n) (hq : q ∉ qs_L S) (v : vq t0 S S' q ci n f) (hf : ∀ i, i < n → f i = ma M k i) : ∃ H', tx_V (k :: l) (qs_wR S' k y (some q)) y H' M ∧ tx_J t0 S (qs_wR S' k y (some q)) := by
  obtain ⟨h1, h2, h3, h4⟩ := h
  obtain ⟨v1, v2, v3, v4, v5⟩ := v
  have qy : q ≠ y := fun z => hq (z ▸ h1.1)
  have f1 : ps_Fr t0 S' (qs_wR S' k y (some q)) (fun b => b = y) := ps_Fr.wR rfl
  have yb := v1.1 y h1.1
  have ys := v1.2.1 y h1.1 (fun z => z)
  refine ⟨fun j => if j = k then q else H j, ⟨⟨yb.1, yb.2.trans h1.2⟩, fun k' hk' => (ys.1 k').trans (h2 k' hk'), fun k' hk' => ?_, fun a b ha hb e => ?_⟩, ⟨fun b hb => ⟨(f1.1 b (v1.1 b hb).1).1, (f1.1 b (v1.1 b hb).1).2.trans (v1.1 b hb).2⟩, fun b hb hx => (v1.2.1 b hb (fun z => z)).tr (f1.2.1 b (v1.1 b hb).1 (fun z => hx (Or.inl (by rw [z]; exact h1.2)))), fun z => f1.2.2 (v1.2.2 z)⟩⟩
  · by_cases c : k' = k
    · subst c
      simp only [if_pos]
      refine ⟨if_pos ⟨rfl, rfl⟩, ⟨v2, v3.trans hc.symm⟩, v4.trans hn.symm, fun i hi => ?_⟩
      rw [hn] at hi
      exact (v5 i hi).trans (hf i hi)
    · simp only [if_neg c]
      obtain ⟨e1, e2, e3, e4⟩ := h3 k' ((List.mem_cons.mp hk').resolve_left c)
      have s := v1.2.1 (H k') e2.1 (fun z => z)
      have b := v1.1 (H k') e2.1
      refine ⟨?_, ⟨b.1, b.2.trans e2.2⟩, s.2.2.1.trans e3, fun i hi => (s.2.2.2.1 i).trans (e4 i hi)⟩
      show (if k' = k ∧ y = y then some q else qs_R S' k' y) = some (H k')
      rw [if_neg (fun z => c z.1)]
      exact (ys.2.1 k').trans e1
  · have e' : (if a = k then q else H a) = (if b = k then q else H b) := e
    by_cases ca : a = k <;> by_cases cb : b = k
    · rw [ca, cb]
    · rw [if_pos ca, if_neg cb] at e'
      exact absurd (e' ▸ (h3 b ((List.mem_cons.mp hb).resolve_left cb)).2.1.1) hq
    · rw [if_neg ca, if_pos cb] at e'
      exact absurd (e' ▸ (h3 a ((List.mem_cons.mp ha).resolve_left ca)).2.1.1) hq
    · rw [if_neg ca, if_neg cb] at e'
      exact h4 a b ((List.mem_cons.mp ha).resolve_left ca) ((List.mem_cons.mp hb).resolve_left cb) e'
/-- how the reference begins -/
def mm_0 : mm_M := (fun _ => 0, fun k i => if k = 16 then nI (5 * i) else if k = 33 ∨ k = 34 then -1 else 0)
theorem mn_lt {k : Nat} (h : mn k ≠ 0) : k < 35 := by
  unfold mn at h
  repeat' split at h
  all_goals omega
theorem tx_V.M {l : List Nat} {S : qs_S} {y : Nat} {H : Nat → Nat} {M : mm_M} (h : tx_V l S y H M) (hl : ∀ k, k < 35 → mn k ≠ 0 → k ∈ l) : tx_M S y H M :=
  ⟨h.1, h.2.1, fun k hk => h.2.2.1 k (hl k (mn_lt hk) hk), fun k k' hk hk' => h.2.2.2 k k' (hl k (mn_lt hk) hk) (hl k' (mn_lt hk') hk')⟩
set_option maxRecDepth 100000 in
theorem cm_init {t0 m9 mc ms y : Nat} {S : qs_S} {post : qs_S → Prop} (hy : y ∈ qs_L S) (hk : qs_K S y = 7) (hI : ∀ k, mn k = 0 → qs_I S k y = 0) (hmc : 28 ≤ mc) (hms : 1560 ≤ ms) (hp : ∀ S' H, tx_M S' y H mm_0 → tx_J t0 S S' → post S') : wp_X7_init t0 m9 mc ms post S y := by
  have v : tx_V [] S y (fun k => k) mm_0 := ⟨⟨hy, hk⟩, hI, fun k h => absurd h List.not_mem_nil, fun k k' h => absurd h List.not_mem_nil⟩
  have J : tx_J t0 S S := tx_J.rf
  refine ⟨⟨by omega, by omega⟩, fun q hq ht => ?_⟩
  obtain ⟨H, v, j⟩ := v.row (k := 3) (by decide) rfl rfl hq (vq_new (n := 10) (ci := 8) hq ht) (fun _ _ => rfl)
  have J := J.tr j
  clear j
  refine ⟨⟨((ps_Fr.nA (P := fun _ => False) hq ht).1 y hy).1, ((ps_Fr.nA (P := fun _ => False) hq ht).1 y hy).2.trans hk⟩, ?_⟩
  refine ⟨⟨by omega, by omega⟩, fun q hq ht => ?_⟩
  obtain ⟨H, v, j⟩ := v.row (k := 4) (by decide) rfl rfl hq (vq_new (n := 10) (ci := 8) hq ht) (fun _ _ => rfl)
  have J := J.tr j
  clear j
  refine ⟨⟨by omega, by omega⟩, fun q hq ht => ?_⟩
  obtain ⟨H, v, j⟩ := v.row (k := 5) (by decide) rfl rfl hq (vq_new (n := 10) (ci := 9) hq ht) (fun _ _ => rfl)
  have J := J.tr j
  clear j
  refine ⟨⟨by omega, by omega⟩, fun q hq ht => ?_⟩
  obtain ⟨H, v, j⟩ := v.row (k := 7) (by decide) rfl rfl hq (vq_new (n := 24) (ci := 8) hq ht) (fun _ _ => rfl)
  have J := J.tr j
  clear j
  intro S1 e1
  rw [← e1] at v J
  clear e1
  refine ⟨⟨by omega, by omega⟩, fun q hq ht => ?_⟩
  obtain ⟨H, v, j⟩ := v.row (k := 8) (by decide) rfl rfl hq (vq_new (n := 24) (ci := 8) hq ht) (fun _ _ => rfl)
  have J := J.tr j
  clear j
  refine ⟨⟨by omega, by omega⟩, fun q hq ht => ?_⟩
  obtain ⟨H, v, j⟩ := v.row (k := 9) (by decide) rfl rfl hq (vq_new (n := 24) (ci := 8) hq ht) (fun _ _ => rfl)
  have J := J.tr j
  clear j
  refine ⟨⟨by omega, by omega⟩, fun q hq ht => ?_⟩
  obtain ⟨H, v, j⟩ := v.row (k := 10) (by decide) rfl rfl hq (vq_new (n := 24) (ci := 8) hq ht) (fun _ _ => rfl)
  have J := J.tr j
  clear j
  refine ⟨⟨by omega, by omega⟩, fun q hq ht => ?_⟩
  obtain ⟨H, v, j⟩ := v.row (k := 11) (by decide) rfl rfl hq (vq_new (n := 24) (ci := 8) hq ht) (fun _ _ => rfl)
  have J := J.tr j
  clear j
  intro S1 e1
  rw [← e1] at v J
  clear e1
  refine ⟨⟨by omega, by omega⟩, fun q hq ht => ?_⟩
  obtain ⟨H, v, j⟩ := v.row (k := 12) (by decide) rfl rfl hq (vq_new (n := 24) (ci := 8) hq ht) (fun _ _ => rfl)
  have J := J.tr j
  clear j
  refine ⟨⟨by omega, by omega⟩, fun q hq ht => ?_⟩
  obtain ⟨H, v, j⟩ := v.row (k := 13) (by decide) rfl rfl hq (vq_new (n := 24) (ci := 8) hq ht) (fun _ _ => rfl)
  have J := J.tr j
  clear j
  refine ⟨⟨by omega, by omega⟩, fun q hq ht => ?_⟩
  obtain ⟨H, v, j⟩ := v.row (k := 14) (by decide) rfl rfl hq (vq_new (n := 6) (ci := 8) hq ht) (fun _ _ => rfl)
  have J := J.tr j
  clear j
  refine ⟨⟨by omega, by omega⟩, fun q hq ht => ?_⟩
  obtain ⟨H, v, j⟩ := v.row (k := 15) (by decide) rfl rfl hq (vq_new (n := 24) (ci := 8) hq ht) (fun _ _ => rfl)
  have J := J.tr j
  clear j
  intro S1 e1
  rw [← e1] at v J
  clear e1
  refine ⟨⟨by omega, by omega⟩, fun q hq ht => ?_⟩
  have a := vq_new (n := 4) (ci := 8) hq ht
  refine ⟨a.vp (i := 0) rfl (by decide) (by decide), ?_⟩
  have a := vq_w hq a (0 : Int32).toNatClampNeg (0)
  refine ⟨a.vp (i := 1) rfl (by decide) (by decide), ?_⟩
  have a := vq_w hq a (1 : Int32).toNatClampNeg (5)
  refine ⟨a.vp (i := 2) rfl (by decide) (by decide), ?_⟩
  have a := vq_w hq a (2 : Int32).toNatClampNeg (10)
  intro S1 e1
  rw [← e1] at a
  clear e1
  refine ⟨a.vp (i := 3) rfl (by decide) (by decide), ?_⟩
  have a := vq_w hq a (3 : Int32).toNatClampNeg (15)
  obtain ⟨H, v, j⟩ := v.row (k := 16) (by decide) rfl rfl hq a (by decide +kernel)
  have J := J.tr j
  clear j
  refine ⟨⟨by omega, by omega⟩, fun q hq ht => ?_⟩
  obtain ⟨H, v, j⟩ := v.row (k := 17) (by decide) rfl rfl hq (vq_new (n := 8) (ci := 9) hq ht) (fun _ _ => rfl)
  have J := J.tr j
  clear j
  refine ⟨⟨by omega, by omega⟩, fun q hq ht => ?_⟩
  obtain ⟨H, v, j⟩ := v.row (k := 19) (by decide) rfl rfl hq (vq_new (n := 80) (ci := 8) hq ht) (fun _ _ => rfl)
  have J := J.tr j
  clear j
  intro S1 e1
  rw [← e1] at v J
  clear e1
  refine ⟨⟨by omega, by omega⟩, fun q hq ht => ?_⟩
  obtain ⟨H, v, j⟩ := v.row (k := 20) (by decide) rfl rfl hq (vq_new (n := 80) (ci := 8) hq ht) (fun _ _ => rfl)
  have J := J.tr j
  clear j
  refine ⟨⟨by omega, by omega⟩, fun q hq ht => ?_⟩
  obtain ⟨H, v, j⟩ := v.row (k := 21) (by decide) rfl rfl hq (vq_new (n := 80) (ci := 8) hq ht) (fun _ _ => rfl)
  have J := J.tr j
  clear j
  refine ⟨⟨by omega, by omega⟩, fun q hq ht => ?_⟩
  obtain ⟨H, v, j⟩ := v.row (k := 22) (by decide) rfl rfl hq (vq_new (n := 80) (ci := 8) hq ht) (fun _ _ => rfl)
  have J := J.tr j
  clear j
  refine ⟨⟨by omega, by omega⟩, fun q hq ht => ?_⟩
  intro S1 e1
  have a := vq_new (n := 80) (ci := 8) hq ht
  rw [← e1] at a
  obtain ⟨H, v, j⟩ := v.row (k := 23) (by decide) rfl rfl hq a (fun _ _ => rfl)
  clear e1
  have J := J.tr j
  clear j
  refine ⟨⟨by omega, by omega⟩, fun q hq ht => ?_⟩
  obtain ⟨H, v, j⟩ := v.row (k := 24) (by decide) rfl rfl hq (vq_new (n := 80) (ci := 9) hq ht) (fun _ _ => rfl)
  have J := J.tr j
  clear j
  refine ⟨⟨by omega, by omega⟩, fun q hq ht => ?_⟩
  obtain ⟨H, v, j⟩ := v.row (k := 26) (by decide) rfl rfl hq (vq_new (n := 80) (ci := 8) hq ht) (fun _ _ => rfl)
  have J := J.tr j
  clear j
  refine ⟨⟨by omega, by omega⟩, fun q hq ht => ?_⟩
  obtain ⟨H, v, j⟩ := v.row (k := 28) (by decide) rfl rfl hq (vq_new (n := 80) (ci := 8) hq ht) (fun _ _ => rfl)
  have J := J.tr j
  clear j
  intro S1 e1
  rw [← e1] at v J
  clear e1
  refine ⟨⟨by omega, by omega⟩, fun q hq ht => ?_⟩
  obtain ⟨H, v, j⟩ := v.row (k := 29) (by decide) rfl rfl hq (vq_new (n := 8) (ci := 8) hq ht) (fun _ _ => rfl)
  have J := J.tr j
  clear j
  refine ⟨⟨by omega, by omega⟩, fun q hq ht => ?_⟩
  obtain ⟨H, v, j⟩ := v.row (k := 30) (by decide) rfl rfl hq (vq_new (n := 640) (ci := 8) hq ht) (fun _ _ => rfl)
  have J := J.tr j
  clear j
  refine ⟨⟨by omega, by omega⟩, fun q hq ht => ?_⟩
  obtain ⟨H, v, j⟩ := v.row (k := 31) (by decide) rfl rfl hq (vq_new (n := 8) (ci := 8) hq ht) (fun _ _ => rfl)
  have J := J.tr j
  clear j
  refine ⟨⟨by omega, by omega⟩, fun q hq ht => ?_⟩
  intro S1 e1
  have a := vq_new (n := 8) (ci := 8) hq ht
  rw [← e1] at a
  obtain ⟨H, v, j⟩ := v.row (k := 32) (by decide) rfl rfl hq a (fun _ _ => rfl)
  clear e1
  have J := J.tr j
  clear j
  refine ⟨⟨by omega, by omega⟩, fun q hq ht => ?_⟩
  have a := vq_new (n := 8) (ci := 8) hq ht
  refine ⟨a.vp (i := 0) rfl (by decide) (by decide), ?_⟩
  have a := vq_w hq a (0 : Int32).toNatClampNeg (-1)
  refine ⟨a.vp (i := 1) rfl (by decide) (by decide), ?_⟩
  have a := vq_w hq a (1 : Int32).toNatClampNeg (-1)
  refine ⟨a.vp (i := 2) rfl (by decide) (by decide), ?_⟩
  have a := vq_w hq a (2 : Int32).toNatClampNeg (-1)
  intro S1 e1
  rw [← e1] at a
  clear e1
  refine ⟨a.vp (i := 3) rfl (by decide) (by decide), ?_⟩
  have a := vq_w hq a (3 : Int32).toNatClampNeg (-1)
  refine ⟨a.vp (i := 4) rfl (by decide) (by decide), ?_⟩
  have a := vq_w hq a (4 : Int32).toNatClampNeg (-1)
  refine ⟨a.vp (i := 5) rfl (by decide) (by decide), ?_⟩
  have a := vq_w hq a (5 : Int32).toNatClampNeg (-1)
  intro S1 e1
  rw [← e1] at a
  clear e1
  refine ⟨a.vp (i := 6) rfl (by decide) (by decide), ?_⟩
  have a := vq_w hq a (6 : Int32).toNatClampNeg (-1)
  refine ⟨a.vp (i := 7) rfl (by decide) (by decide), ?_⟩
  have a := vq_w hq a (7 : Int32).toNatClampNeg (-1)
  obtain ⟨H, v, j⟩ := v.row (k := 33) (by decide) rfl rfl hq a (by decide +kernel)
  have J := J.tr j
  clear j
  refine ⟨⟨by omega, by omega⟩, fun q hq ht => ?_⟩
  have a := vq_new (n := 8) (ci := 8) hq ht
  refine ⟨a.vp (i := 0) rfl (by decide) (by decide), ?_⟩
  have a := vq_w hq a (0 : Int32).toNatClampNeg (-1)
  intro S1 e1
  rw [← e1] at a
  clear e1
  refine ⟨a.vp (i := 1) rfl (by decide) (by decide), ?_⟩
  have a := vq_w hq a (1 : Int32).toNatClampNeg (-1)
  refine ⟨a.vp (i := 2) rfl (by decide) (by decide), ?_⟩
  have a := vq_w hq a (2 : Int32).toNatClampNeg (-1)
  refine ⟨a.vp (i := 3) rfl (by decide) (by decide), ?_⟩
  have a := vq_w hq a (3 : Int32).toNatClampNeg (-1)
  intro S1 e1
  rw [← e1] at a
  clear e1
  refine ⟨a.vp (i := 4) rfl (by decide) (by decide), ?_⟩
  have a := vq_w hq a (4 : Int32).toNatClampNeg (-1)
  refine ⟨a.vp (i := 5) rfl (by decide) (by decide), ?_⟩
  have a := vq_w hq a (5 : Int32).toNatClampNeg (-1)
  refine ⟨a.vp (i := 6) rfl (by decide) (by decide), ?_⟩
  have a := vq_w hq a (6 : Int32).toNatClampNeg (-1)
  intro S1 e1
  rw [← e1] at a
  clear e1
  refine ⟨a.vp (i := 7) rfl (by decide) (by decide), ?_⟩
  have a := vq_w hq a (7 : Int32).toNatClampNeg (-1)
  obtain ⟨H, v, j⟩ := v.row (k := 34) (by decide) rfl rfl hq a (by decide +kernel)
  have J := J.tr j
  clear j
  exact hp _ _ (v.M (by decide)) J
theorem tl_Y {j : Nat} (h : j ≠ 4) (h5 : j ≠ 5) : tl (tt_Y 4) j = [] := (tt_lL h5).trans (tt_lL h)
theorem sm_0 : sm (tt_Y 4) mm_0 := by
  have l0 : tl (tt_Y 4) 0 = [] := rfl
  have l1 : tl (tt_Y 4) 1 = [] := rfl
  have l2 : tl (tt_Y 4) 2 = [] := rfl
  have l3 : tl (tt_Y 4) 3 = [] := rfl
  refine ⟨⟨rfl, nI_0.symm, nI_0.symm, nI_0.symm, rfl, nI_0.symm⟩, fun s hs => absurd hs (Nat.not_lt_zero _), fun s hs => absurd hs (Nat.not_lt_zero _), fun s hs => nI_0.symm, fun w hw => ⟨fun h4 => ?_, rfl, rfl, rfl, rfl, fun _ => rfl⟩, fun s hs => absurd hs (Nat.not_lt_zero _), fun s hs => absurd hs (Nat.not_lt_zero _), ⟨fun m _ _ => ⟨rfl, rfl, rfl, rfl⟩, fun i _ _ => rfl⟩, fun s hs => absurd hs (Nat.not_lt_zero _), fun w hw => ?_⟩
  · show nI (5 * w) = (if 7 = 0 then nI w else if 7 = 7 ∧ w < 4 then nI w * 5 else 0)
    rw [if_neg (by decide), if_pos ⟨rfl, h4⟩, Nat.mul_comm]
    exact (pk_mul w 5).symm
  · rw [tl_Y (by omega) (by omega)]
    exact ⟨nI_0.symm, fun k hk => absurd hk (Nat.not_lt_zero _)⟩
theorem iv_0 : iv (tt_Y 4) 0 := by
  refine ⟨⟨fun j hj => ?_, rfl, rfl⟩, ⟨fun w hw => rfl, fun i hi => absurd hi (Nat.not_lt_zero _), fun i hi => absurd hi (Nat.not_lt_zero _), fun i hi => absurd hi (Nat.not_lt_zero _)⟩, ⟨Nat.zero_le _, Nat.zero_le _, Nat.zero_le _⟩, fun j hj h22 => ?_, fun w w' m hw hw' hm => ?_, fun w hw x => ⟨fun e => absurd (show 0 = x + 1 from e) (by omega), fun _ e => absurd (show 0 = x + 1 from e) (by omega)⟩, fun w h4 hw => ⟨fun m hm => ?_, fun x => ⟨fun e => absurd (show 0 = x + 1 from e) (by omega), fun e => absurd (show 0 = x + 1 from e) (by omega)⟩⟩, fun i hi => absurd hi (Nat.not_lt_zero _), ⟨0, 0, nI_0.symm, Nat.zero_le _, nI_0.symm, Nat.le_refl _, fun i hi => absurd hi (Nat.not_lt_zero _)⟩, fun i hi => absurd hi (Nat.not_lt_zero _), fun i hi => absurd hi (Nat.not_lt_zero _), fun w hw => ⟨Or.inl rfl, fun _ => rfl⟩⟩
  · rw [tl_Y (by omega) (by omega)]
    rfl
  · rw [tl_Y (by omega) (by omega)]
    exact ⟨List.nodup_nil, fun m hm => absurd hm List.not_mem_nil⟩
  · rw [tl_Y (by omega) (by omega)] at hm
    exact absurd hm List.not_mem_nil
  · rw [tl_Y (by omega) (by omega)] at hm
    exact absurd hm List.not_mem_nil
